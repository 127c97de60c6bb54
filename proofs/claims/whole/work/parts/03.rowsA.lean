theorem dX0_init_0 : decode cX0_init 0 = .ok (.aload_n 0, 1) := by decide +kernel
theorem dX0_init_1 : decode cX0_init 1 = .ok (.invokespecial 3, 3) := by decide +kernel
theorem dX0_init_4 : decode cX0_init 4 = .ok (.aload_n 0, 1) := by decide +kernel
theorem dX0_init_5 : decode cX0_init 5 = .ok (.sipush 462, 3) := by decide +kernel
theorem dX0_init_8 : decode cX0_init 8 = .ok (.newarray .long, 2) := by decide +kernel
theorem dX0_init_10 : decode cX0_init 10 = .ok (.putfield 11, 3) := by decide +kernel
theorem dX0_init_13 : decode cX0_init 13 = .ok (.aload_n 0, 1) := by decide +kernel
theorem dX0_init_14 : decode cX0_init 14 = .ok (.sipush 462, 3) := by decide +kernel
theorem dX0_init_17 : decode cX0_init 17 = .ok (.newarray .long, 2) := by decide +kernel
theorem dX0_init_19 : decode cX0_init 19 = .ok (.putfield 17, 3) := by decide +kernel
theorem dX0_init_22 : decode cX0_init 22 = .ok (.return_, 1) := by decide +kernel
set_option maxRecDepth 20000 in
theorem ggX0_stableRows_J7_fill_d0a16 : GoodIn wsX0_stableRows wsJ7_fill_d0a16 := goodIn_r _ [11] (by decide +kernel) (by decide +kernel)
set_option maxRecDepth 20000 in
theorem gX0_stableRows_J7_fill_d0a16 : GoodIn wsX0_stableRows (va_wsS RX0 20 yJ7_fill_d0a16 wsJ7_fill_d0a16) := goodIn_app (goodIn_of _ (by decide +kernel)) ggX0_stableRows_J7_fill_d0a16
set_option maxRecDepth 20000 in
theorem ggX0_stableRows_X0_goOn : GoodIn wsX0_stableRows wsX0_goOn := goodIn_r _ [16, 17, 2, 1, 18, 19, 20, 21, 22, 23, 24, 25, 26, 27, 28, 29, 30, 31, 32, 33, 34, 35, 36, 37, 38, 39, 40, 41, 42, 43, 44, 45, 46, 47, 48, 68, 69, 70, 54, 55, 56, 57, 58, 59, 60, 61, 62, 63, 64, 65, 66, 67] (by decide +kernel) (by decide +kernel)
set_option maxRecDepth 20000 in
theorem gX0_stableRows_X0_goOn : GoodIn wsX0_stableRows (wsV RX0 32 RX0 yX0_goOn wsX0_goOn) := goodIn_app (goodIn_of _ (by decide +kernel)) ggX0_stableRows_X0_goOn
set_option maxRecDepth 20000 in
theorem ggX0_stableRows_X3_answerAt : GoodIn wsX0_stableRows wsX3_answerAt := goodIn_r _ [52, 53, 56, 57, 58, 59, 60, 61, 62, 63, 64, 65, 66, 67] (by decide +kernel) (by decide +kernel)
set_option maxRecDepth 20000 in
theorem gX0_stableRows_X3_answerAt : GoodIn wsX0_stableRows (wsV RX0 42 RX3 yX3_answerAt wsX3_answerAt) := goodIn_app (goodIn_of _ (by decide +kernel)) ggX0_stableRows_X3_answerAt
theorem dX0_stableRows_0 : decode cX0_stableRows 0 = .ok (.aload_n 0, 1) := by decide +kernel
theorem dX0_stableRows_1 : decode cX0_stableRows 1 = .ok (.getfield 11, 3) := by decide +kernel
theorem dX0_stableRows_4 : decode cX0_stableRows 4 = .ok (.lconst 0, 1) := by decide +kernel
theorem dX0_stableRows_5 : decode cX0_stableRows 5 = .ok (.invokestatic 20, 3) := by decide +kernel
theorem dX0_stableRows_8 : decode cX0_stableRows 8 = .ok (.aload_n 0, 1) := by decide +kernel
theorem dX0_stableRows_9 : decode cX0_stableRows 9 = .ok (.getfield 11, 3) := by decide +kernel
theorem dX0_stableRows_12 : decode cX0_stableRows 12 = .ok (.iconst 0, 1) := by decide +kernel
theorem dX0_stableRows_13 : decode cX0_stableRows 13 = .ok (.lconst 1, 1) := by decide +kernel
theorem dX0_stableRows_14 : decode cX0_stableRows 14 = .ok (.lastore, 1) := by decide +kernel
theorem dX0_stableRows_15 : decode cX0_stableRows 15 = .ok (.iconst 0, 1) := by decide +kernel
theorem dX0_stableRows_16 : decode cX0_stableRows 16 = .ok (.istore 5, 2) := by decide +kernel
theorem dX0_stableRows_18 : decode cX0_stableRows 18 = .ok (.iload 5, 2) := by decide +kernel
theorem dX0_stableRows_20 : decode cX0_stableRows 20 = .ok (.iload_n 3, 1) := by decide +kernel
theorem dX0_stableRows_21 : decode cX0_stableRows 21 = .ok (.if_icmp .ge 63, 3) := by decide +kernel
theorem dX0_stableRows_24 : decode cX0_stableRows 24 = .ok (.aload_n 0, 1) := by decide +kernel
theorem dX0_stableRows_25 : decode cX0_stableRows 25 = .ok (.getfield 17, 3) := by decide +kernel
theorem dX0_stableRows_28 : decode cX0_stableRows 28 = .ok (.lconst 0, 1) := by decide +kernel
theorem dX0_stableRows_29 : decode cX0_stableRows 29 = .ok (.invokestatic 20, 3) := by decide +kernel
theorem dX0_stableRows_32 : decode cX0_stableRows 32 = .ok (.iconst 0, 1) := by decide +kernel
theorem dX0_stableRows_33 : decode cX0_stableRows 33 = .ok (.istore 6, 2) := by decide +kernel
theorem dX0_stableRows_35 : decode cX0_stableRows 35 = .ok (.iload 6, 2) := by decide +kernel
theorem dX0_stableRows_37 : decode cX0_stableRows 37 = .ok (.aload_n 1, 1) := by decide +kernel
theorem dX0_stableRows_38 : decode cX0_stableRows 38 = .ok (.getfield 26, 3) := by decide +kernel
theorem dX0_stableRows_41 : decode cX0_stableRows 41 = .ok (.if_icmp .ge 19, 3) := by decide +kernel
theorem dX0_stableRows_44 : decode cX0_stableRows 44 = .ok (.aload_n 0, 1) := by decide +kernel
theorem dX0_stableRows_45 : decode cX0_stableRows 45 = .ok (.aload_n 1, 1) := by decide +kernel
theorem dX0_stableRows_46 : decode cX0_stableRows 46 = .ok (.aload_n 2, 1) := by decide +kernel
theorem dX0_stableRows_47 : decode cX0_stableRows 47 = .ok (.iload 6, 2) := by decide +kernel
theorem dX0_stableRows_49 : decode cX0_stableRows 49 = .ok (.iload 4, 2) := by decide +kernel
theorem dX0_stableRows_51 : decode cX0_stableRows 51 = .ok (.invokevirtual 32, 3) := by decide +kernel
theorem dX0_stableRows_54 : decode cX0_stableRows 54 = .ok (.iinc 6 1, 3) := by decide +kernel
theorem dX0_stableRows_57 : decode cX0_stableRows 57 = .ok (.goto (-22), 3) := by decide +kernel
theorem dX0_stableRows_60 : decode cX0_stableRows 60 = .ok (.aload_n 0, 1) := by decide +kernel
theorem dX0_stableRows_61 : decode cX0_stableRows 61 = .ok (.getfield 17, 3) := by decide +kernel
theorem dX0_stableRows_64 : decode cX0_stableRows 64 = .ok (.iconst 0, 1) := by decide +kernel
theorem dX0_stableRows_65 : decode cX0_stableRows 65 = .ok (.aload_n 0, 1) := by decide +kernel
theorem dX0_stableRows_66 : decode cX0_stableRows 66 = .ok (.getfield 11, 3) := by decide +kernel
theorem dX0_stableRows_69 : decode cX0_stableRows 69 = .ok (.iconst 0, 1) := by decide +kernel
theorem dX0_stableRows_70 : decode cX0_stableRows 70 = .ok (.aload_n 0, 1) := by decide +kernel
theorem dX0_stableRows_71 : decode cX0_stableRows 71 = .ok (.getfield 11, 3) := by decide +kernel
theorem dX0_stableRows_74 : decode cX0_stableRows 74 = .ok (.arraylength, 1) := by decide +kernel
theorem dX0_stableRows_75 : decode cX0_stableRows 75 = .ok (.invokestatic 36, 3) := by decide +kernel
theorem dX0_stableRows_78 : decode cX0_stableRows 78 = .ok (.iinc 5 1, 3) := by decide +kernel
theorem dX0_stableRows_81 : decode cX0_stableRows 81 = .ok (.goto (-63), 3) := by decide +kernel
theorem dX0_stableRows_84 : decode cX0_stableRows 84 = .ok (.lconst 0, 1) := by decide +kernel
theorem dX0_stableRows_85 : decode cX0_stableRows 85 = .ok (.lstore 5, 2) := by decide +kernel
theorem dX0_stableRows_87 : decode cX0_stableRows 87 = .ok (.iconst 0, 1) := by decide +kernel
theorem dX0_stableRows_88 : decode cX0_stableRows 88 = .ok (.istore 7, 2) := by decide +kernel
theorem dX0_stableRows_90 : decode cX0_stableRows 90 = .ok (.iload 7, 2) := by decide +kernel
theorem dX0_stableRows_92 : decode cX0_stableRows 92 = .ok (.aload_n 1, 1) := by decide +kernel
theorem dX0_stableRows_93 : decode cX0_stableRows 93 = .ok (.getfield 26, 3) := by decide +kernel
theorem dX0_stableRows_96 : decode cX0_stableRows 96 = .ok (.if_icmp .ge 32, 3) := by decide +kernel
theorem dX0_stableRows_99 : decode cX0_stableRows 99 = .ok (.aload_n 1, 1) := by decide +kernel
theorem dX0_stableRows_100 : decode cX0_stableRows 100 = .ok (.iload 7, 2) := by decide +kernel
theorem dX0_stableRows_102 : decode cX0_stableRows 102 = .ok (.invokevirtual 42, 3) := by decide +kernel
theorem dX0_stableRows_105 : decode cX0_stableRows 105 = .ok (.bipush (-9), 2) := by decide +kernel
theorem dX0_stableRows_107 : decode cX0_stableRows 107 = .ok (.if_icmp .eq 15, 3) := by decide +kernel
theorem dX0_stableRows_110 : decode cX0_stableRows 110 = .ok (.lload 5, 2) := by decide +kernel
theorem dX0_stableRows_112 : decode cX0_stableRows 112 = .ok (.aload_n 0, 1) := by decide +kernel
theorem dX0_stableRows_113 : decode cX0_stableRows 113 = .ok (.getfield 11, 3) := by decide +kernel
theorem dX0_stableRows_116 : decode cX0_stableRows 116 = .ok (.iload 7, 2) := by decide +kernel
theorem dX0_stableRows_118 : decode cX0_stableRows 118 = .ok (.laload, 1) := by decide +kernel
theorem dX0_stableRows_119 : decode cX0_stableRows 119 = .ok (.ladd, 1) := by decide +kernel
theorem dX0_stableRows_120 : decode cX0_stableRows 120 = .ok (.lstore 5, 2) := by decide +kernel
theorem dX0_stableRows_122 : decode cX0_stableRows 122 = .ok (.iinc 7 1, 3) := by decide +kernel
theorem dX0_stableRows_125 : decode cX0_stableRows 125 = .ok (.goto (-35), 3) := by decide +kernel
theorem dX0_stableRows_128 : decode cX0_stableRows 128 = .ok (.lload 5, 2) := by decide +kernel
theorem dX0_stableRows_130 : decode cX0_stableRows 130 = .ok (.lreturn, 1) := by decide +kernel
set_option maxRecDepth 20000 in
theorem ggX0_goOn_X3_leadAt : GoodIn wsX0_goOn wsX3_leadAt := goodIn_r _ [8, 9, 40, 41, 42, 43, 44, 45, 46, 47, 48, 49, 50, 51] (by decide +kernel) (by decide +kernel)
set_option maxRecDepth 20000 in
theorem gX0_goOn_X3_leadAt : GoodIn wsX0_goOn (wsV RX0 49 RX3 yX3_leadAt wsX3_leadAt) := goodIn_app (goodIn_of _ (by decide +kernel)) ggX0_goOn_X3_leadAt
set_option maxRecDepth 20000 in
theorem ggX0_goOn_X3_configurationAt : GoodIn wsX0_goOn wsX3_configurationAt := goodIn_r _ [13, 14, 40, 41, 42, 43, 44, 45, 46, 47, 48, 49, 50, 51] (by decide +kernel) (by decide +kernel)
set_option maxRecDepth 20000 in
theorem gX0_goOn_X3_configurationAt : GoodIn wsX0_goOn (wsV RX0 53 RX3 yX3_configurationAt wsX3_configurationAt) := goodIn_app (goodIn_of _ (by decide +kernel)) ggX0_goOn_X3_configurationAt
set_option maxRecDepth 20000 in
theorem ggX0_goOn_X4_twoAt : GoodIn wsX0_goOn wsX4_twoAt := goodIn_r _ [19, 20, 35, 36, 37] (by decide +kernel) (by decide +kernel)
set_option maxRecDepth 20000 in
theorem gX0_goOn_X4_twoAt : GoodIn wsX0_goOn (wsV RX0 56 RX4 yX4_twoAt wsX4_twoAt) := goodIn_app (goodIn_of _ (by decide +kernel)) ggX0_goOn_X4_twoAt
set_option maxRecDepth 20000 in
theorem ggX0_goOn_X1_meetingsOf : GoodIn wsX0_goOn wsX1_meetingsOf := goodIn_r _ [24, 25, 26, 27, 28, 29, 30, 31, 32, 33, 23, 34] (by decide +kernel) (by decide +kernel)
set_option maxRecDepth 20000 in
theorem gX0_goOn_X1_meetingsOf : GoodIn wsX0_goOn (va_wsS RX0 59 yX1_meetingsOf wsX1_meetingsOf) := goodIn_app (goodIn_of _ (by decide +kernel)) ggX0_goOn_X1_meetingsOf
theorem dX0_goOn_0 : decode cX0_goOn 0 = .ok (.iload 4, 2) := by decide +kernel
theorem dX0_goOn_2 : decode cX0_goOn 2 = .ok (.istore 5, 2) := by decide +kernel
theorem dX0_goOn_4 : decode cX0_goOn 4 = .ok (.iconst 0, 1) := by decide +kernel
theorem dX0_goOn_5 : decode cX0_goOn 5 = .ok (.istore 6, 2) := by decide +kernel
theorem dX0_goOn_7 : decode cX0_goOn 7 = .ok (.iload 6, 2) := by decide +kernel
theorem dX0_goOn_9 : decode cX0_goOn 9 = .ok (.aload_n 2, 1) := by decide +kernel
theorem dX0_goOn_10 : decode cX0_goOn 10 = .ok (.getfield 46, 3) := by decide +kernel
theorem dX0_goOn_13 : decode cX0_goOn 13 = .ok (.if_icmp .ge 66, 3) := by decide +kernel
theorem dX0_goOn_16 : decode cX0_goOn 16 = .ok (.aload_n 1, 1) := by decide +kernel
theorem dX0_goOn_17 : decode cX0_goOn 17 = .ok (.iload_n 3, 1) := by decide +kernel
theorem dX0_goOn_18 : decode cX0_goOn 18 = .ok (.iload 6, 2) := by decide +kernel
theorem dX0_goOn_20 : decode cX0_goOn 20 = .ok (.invokevirtual 49, 3) := by decide +kernel
theorem dX0_goOn_23 : decode cX0_goOn 23 = .ok (.istore 7, 2) := by decide +kernel
theorem dX0_goOn_25 : decode cX0_goOn 25 = .ok (.iload 7, 2) := by decide +kernel
theorem dX0_goOn_27 : decode cX0_goOn 27 = .ok (.ifCond .lt 46, 3) := by decide +kernel
theorem dX0_goOn_30 : decode cX0_goOn 30 = .ok (.aload_n 1, 1) := by decide +kernel
theorem dX0_goOn_31 : decode cX0_goOn 31 = .ok (.iload_n 3, 1) := by decide +kernel
theorem dX0_goOn_32 : decode cX0_goOn 32 = .ok (.invokevirtual 53, 3) := by decide +kernel
theorem dX0_goOn_35 : decode cX0_goOn 35 = .ok (.aload_n 2, 1) := by decide +kernel
theorem dX0_goOn_36 : decode cX0_goOn 36 = .ok (.iload 6, 2) := by decide +kernel
theorem dX0_goOn_38 : decode cX0_goOn 38 = .ok (.invokevirtual 56, 3) := by decide +kernel
theorem dX0_goOn_41 : decode cX0_goOn 41 = .ok (.invokestatic 59, 3) := by decide +kernel
theorem dX0_goOn_44 : decode cX0_goOn 44 = .ok (.istore 8, 2) := by decide +kernel
theorem dX0_goOn_46 : decode cX0_goOn 46 = .ok (.aload_n 0, 1) := by decide +kernel
theorem dX0_goOn_47 : decode cX0_goOn 47 = .ok (.getfield 17, 3) := by decide +kernel
theorem dX0_goOn_50 : decode cX0_goOn 50 = .ok (.iload 7, 2) := by decide +kernel
theorem dX0_goOn_52 : decode cX0_goOn 52 = .ok (.dup2, 1) := by decide +kernel
theorem dX0_goOn_53 : decode cX0_goOn 53 = .ok (.laload, 1) := by decide +kernel
theorem dX0_goOn_54 : decode cX0_goOn 54 = .ok (.aload_n 0, 1) := by decide +kernel
theorem dX0_goOn_55 : decode cX0_goOn 55 = .ok (.getfield 11, 3) := by decide +kernel
theorem dX0_goOn_58 : decode cX0_goOn 58 = .ok (.iload_n 3, 1) := by decide +kernel
theorem dX0_goOn_59 : decode cX0_goOn 59 = .ok (.laload, 1) := by decide +kernel
theorem dX0_goOn_60 : decode cX0_goOn 60 = .ok (.iload 8, 2) := by decide +kernel
theorem dX0_goOn_62 : decode cX0_goOn 62 = .ok (.i2l, 1) := by decide +kernel
theorem dX0_goOn_63 : decode cX0_goOn 63 = .ok (.lmul, 1) := by decide +kernel
theorem dX0_goOn_64 : decode cX0_goOn 64 = .ok (.ladd, 1) := by decide +kernel
theorem dX0_goOn_65 : decode cX0_goOn 65 = .ok (.lastore, 1) := by decide +kernel
theorem dX0_goOn_66 : decode cX0_goOn 66 = .ok (.iload 5, 2) := by decide +kernel
theorem dX0_goOn_68 : decode cX0_goOn 68 = .ok (.iload 8, 2) := by decide +kernel
theorem dX0_goOn_70 : decode cX0_goOn 70 = .ok (.isub, 1) := by decide +kernel
theorem dX0_goOn_71 : decode cX0_goOn 71 = .ok (.istore 5, 2) := by decide +kernel
theorem dX0_goOn_73 : decode cX0_goOn 73 = .ok (.iinc 6 1, 3) := by decide +kernel
theorem dX0_goOn_76 : decode cX0_goOn 76 = .ok (.goto (-69), 3) := by decide +kernel
theorem dX0_goOn_79 : decode cX0_goOn 79 = .ok (.aload_n 0, 1) := by decide +kernel
theorem dX0_goOn_80 : decode cX0_goOn 80 = .ok (.getfield 17, 3) := by decide +kernel
theorem dX0_goOn_83 : decode cX0_goOn 83 = .ok (.iload_n 3, 1) := by decide +kernel
theorem dX0_goOn_84 : decode cX0_goOn 84 = .ok (.dup2, 1) := by decide +kernel
theorem dX0_goOn_85 : decode cX0_goOn 85 = .ok (.laload, 1) := by decide +kernel
theorem dX0_goOn_86 : decode cX0_goOn 86 = .ok (.aload_n 0, 1) := by decide +kernel
theorem dX0_goOn_87 : decode cX0_goOn 87 = .ok (.getfield 11, 3) := by decide +kernel
theorem dX0_goOn_90 : decode cX0_goOn 90 = .ok (.iload_n 3, 1) := by decide +kernel
theorem dX0_goOn_91 : decode cX0_goOn 91 = .ok (.laload, 1) := by decide +kernel
theorem dX0_goOn_92 : decode cX0_goOn 92 = .ok (.iload 5, 2) := by decide +kernel
theorem dX0_goOn_94 : decode cX0_goOn 94 = .ok (.i2l, 1) := by decide +kernel
theorem dX0_goOn_95 : decode cX0_goOn 95 = .ok (.lmul, 1) := by decide +kernel
theorem dX0_goOn_96 : decode cX0_goOn 96 = .ok (.ladd, 1) := by decide +kernel
theorem dX0_goOn_97 : decode cX0_goOn 97 = .ok (.lastore, 1) := by decide +kernel
theorem dX0_goOn_98 : decode cX0_goOn 98 = .ok (.return_, 1) := by decide +kernel
theorem dX1_one_0 : decode cX1_one 0 = .ok (.iconst 1, 1) := by decide +kernel
theorem dX1_one_1 : decode cX1_one 1 = .ok (.iconst 3, 1) := by decide +kernel
theorem dX1_one_2 : decode cX1_one 2 = .ok (.iload_n 0, 1) := by decide +kernel
theorem dX1_one_3 : decode cX1_one 3 = .ok (.imul, 1) := by decide +kernel
theorem dX1_one_4 : decode cX1_one 4 = .ok (.ishl, 1) := by decide +kernel
theorem dX1_one_5 : decode cX1_one 5 = .ok (.ireturn, 1) := by decide +kernel
theorem dX1_countIn_0 : decode cX1_countIn 0 = .ok (.iload_n 0, 1) := by decide +kernel
theorem dX1_countIn_1 : decode cX1_countIn 1 = .ok (.iconst 3, 1) := by decide +kernel
theorem dX1_countIn_2 : decode cX1_countIn 2 = .ok (.iload_n 1, 1) := by decide +kernel
theorem dX1_countIn_3 : decode cX1_countIn 3 = .ok (.imul, 1) := by decide +kernel
theorem dX1_countIn_4 : decode cX1_countIn 4 = .ok (.ishr, 1) := by decide +kernel
theorem dX1_countIn_5 : decode cX1_countIn 5 = .ok (.bipush 7, 2) := by decide +kernel
theorem dX1_countIn_7 : decode cX1_countIn 7 = .ok (.iand, 1) := by decide +kernel
theorem dX1_countIn_8 : decode cX1_countIn 8 = .ok (.ireturn, 1) := by decide +kernel
set_option maxRecDepth 20000 in
theorem ggX1_meetingsOf_X5_first : GoodIn wsX1_meetingsOf wsX5_first := goodIn_r _ [4] (by decide +kernel) (by decide +kernel)
set_option maxRecDepth 20000 in
theorem gX1_meetingsOf_X5_first : GoodIn wsX1_meetingsOf (va_wsS RX1 11 yX5_first wsX5_first) := goodIn_app (goodIn_of _ (by decide +kernel)) ggX1_meetingsOf_X5_first
set_option maxRecDepth 20000 in
theorem ggX1_meetingsOf_X5_second : GoodIn wsX1_meetingsOf wsX5_second := goodIn_r _ [7] (by decide +kernel) (by decide +kernel)
set_option maxRecDepth 20000 in
theorem gX1_meetingsOf_X5_second : GoodIn wsX1_meetingsOf (va_wsS RX1 17 yX5_second wsX5_second) := goodIn_app (goodIn_of _ (by decide +kernel)) ggX1_meetingsOf_X5_second
set_option maxRecDepth 20000 in
theorem ggX1_meetingsOf_X1_countIn : GoodIn wsX1_meetingsOf wsX1_countIn := goodIn_r _ [11] (by decide +kernel) (by decide +kernel)
set_option maxRecDepth 20000 in
theorem gX1_meetingsOf_X1_countIn : GoodIn wsX1_meetingsOf (va_wsS RX1 20 yX1_countIn wsX1_countIn) := goodIn_app (goodIn_of _ (by decide +kernel)) ggX1_meetingsOf_X1_countIn
theorem dX1_meetingsOf_0 : decode cX1_meetingsOf 0 = .ok (.iload_n 1, 1) := by decide +kernel
theorem dX1_meetingsOf_1 : decode cX1_meetingsOf 1 = .ok (.invokestatic 11, 3) := by decide +kernel
theorem dX1_meetingsOf_4 : decode cX1_meetingsOf 4 = .ok (.istore_n 2, 1) := by decide +kernel
theorem dX1_meetingsOf_5 : decode cX1_meetingsOf 5 = .ok (.iload_n 1, 1) := by decide +kernel
theorem dX1_meetingsOf_6 : decode cX1_meetingsOf 6 = .ok (.invokestatic 17, 3) := by decide +kernel
theorem dX1_meetingsOf_9 : decode cX1_meetingsOf 9 = .ok (.istore_n 3, 1) := by decide +kernel
theorem dX1_meetingsOf_10 : decode cX1_meetingsOf 10 = .ok (.iload_n 0, 1) := by decide +kernel
theorem dX1_meetingsOf_11 : decode cX1_meetingsOf 11 = .ok (.iload_n 2, 1) := by decide +kernel
theorem dX1_meetingsOf_12 : decode cX1_meetingsOf 12 = .ok (.invokestatic 20, 3) := by decide +kernel
theorem dX1_meetingsOf_15 : decode cX1_meetingsOf 15 = .ok (.istore 4, 2) := by decide +kernel
theorem dX1_meetingsOf_17 : decode cX1_meetingsOf 17 = .ok (.iload_n 2, 1) := by decide +kernel
theorem dX1_meetingsOf_18 : decode cX1_meetingsOf 18 = .ok (.iload_n 3, 1) := by decide +kernel
theorem dX1_meetingsOf_19 : decode cX1_meetingsOf 19 = .ok (.if_icmp .ne 13, 3) := by decide +kernel
theorem dX1_meetingsOf_22 : decode cX1_meetingsOf 22 = .ok (.iload 4, 2) := by decide +kernel
theorem dX1_meetingsOf_24 : decode cX1_meetingsOf 24 = .ok (.iload 4, 2) := by decide +kernel
theorem dX1_meetingsOf_26 : decode cX1_meetingsOf 26 = .ok (.iconst 1, 1) := by decide +kernel
theorem dX1_meetingsOf_27 : decode cX1_meetingsOf 27 = .ok (.isub, 1) := by decide +kernel
theorem dX1_meetingsOf_28 : decode cX1_meetingsOf 28 = .ok (.imul, 1) := by decide +kernel
theorem dX1_meetingsOf_29 : decode cX1_meetingsOf 29 = .ok (.goto 11, 3) := by decide +kernel
theorem dX1_meetingsOf_32 : decode cX1_meetingsOf 32 = .ok (.iload 4, 2) := by decide +kernel
theorem dX1_meetingsOf_34 : decode cX1_meetingsOf 34 = .ok (.iload_n 0, 1) := by decide +kernel
theorem dX1_meetingsOf_35 : decode cX1_meetingsOf 35 = .ok (.iload_n 3, 1) := by decide +kernel
theorem dX1_meetingsOf_36 : decode cX1_meetingsOf 36 = .ok (.invokestatic 20, 3) := by decide +kernel
theorem dX1_meetingsOf_39 : decode cX1_meetingsOf 39 = .ok (.imul, 1) := by decide +kernel
theorem dX1_meetingsOf_40 : decode cX1_meetingsOf 40 = .ok (.ireturn, 1) := by decide +kernel
set_option maxRecDepth 20000 in
theorem ggX1_behind_X5_first : GoodIn wsX1_behind wsX5_first := goodIn_r _ [4] (by decide +kernel) (by decide +kernel)
set_option maxRecDepth 20000 in
theorem gX1_behind_X5_first : GoodIn wsX1_behind (va_wsS RX1 11 yX5_first wsX5_first) := goodIn_app (goodIn_of _ (by decide +kernel)) ggX1_behind_X5_first
set_option maxRecDepth 20000 in
theorem ggX1_behind_X1_one : GoodIn wsX1_behind wsX1_one := goodIn_r _ [8] (by decide +kernel) (by decide +kernel)
set_option maxRecDepth 20000 in
theorem gX1_behind_X1_one : GoodIn wsX1_behind (va_wsS RX1 24 yX1_one wsX1_one) := goodIn_app (goodIn_of _ (by decide +kernel)) ggX1_behind_X1_one
set_option maxRecDepth 20000 in
theorem ggX1_behind_X5_second : GoodIn wsX1_behind wsX5_second := goodIn_r _ [11] (by decide +kernel) (by decide +kernel)
set_option maxRecDepth 20000 in
theorem gX1_behind_X5_second : GoodIn wsX1_behind (va_wsS RX1 17 yX5_second wsX5_second) := goodIn_app (goodIn_of _ (by decide +kernel)) ggX1_behind_X5_second
theorem dX1_behind_0 : decode cX1_behind 0 = .ok (.iload_n 0, 1) := by decide +kernel
theorem dX1_behind_1 : decode cX1_behind 1 = .ok (.iload_n 1, 1) := by decide +kernel
theorem dX1_behind_2 : decode cX1_behind 2 = .ok (.invokestatic 11, 3) := by decide +kernel
theorem dX1_behind_5 : decode cX1_behind 5 = .ok (.invokestatic 24, 3) := by decide +kernel
theorem dX1_behind_8 : decode cX1_behind 8 = .ok (.isub, 1) := by decide +kernel
theorem dX1_behind_9 : decode cX1_behind 9 = .ok (.iload_n 1, 1) := by decide +kernel
theorem dX1_behind_10 : decode cX1_behind 10 = .ok (.invokestatic 17, 3) := by decide +kernel
theorem dX1_behind_13 : decode cX1_behind 13 = .ok (.invokestatic 24, 3) := by decide +kernel
theorem dX1_behind_16 : decode cX1_behind 16 = .ok (.isub, 1) := by decide +kernel
theorem dX1_behind_17 : decode cX1_behind 17 = .ok (.iload_n 2, 1) := by decide +kernel
theorem dX1_behind_18 : decode cX1_behind 18 = .ok (.invokestatic 11, 3) := by decide +kernel
theorem dX1_behind_21 : decode cX1_behind 21 = .ok (.invokestatic 24, 3) := by decide +kernel
theorem dX1_behind_24 : decode cX1_behind 24 = .ok (.iadd, 1) := by decide +kernel
theorem dX1_behind_25 : decode cX1_behind 25 = .ok (.iload_n 2, 1) := by decide +kernel
theorem dX1_behind_26 : decode cX1_behind 26 = .ok (.invokestatic 17, 3) := by decide +kernel
theorem dX1_behind_29 : decode cX1_behind 29 = .ok (.invokestatic 24, 3) := by decide +kernel
theorem dX1_behind_32 : decode cX1_behind 32 = .ok (.iadd, 1) := by decide +kernel
theorem dX1_behind_33 : decode cX1_behind 33 = .ok (.ireturn, 1) := by decide +kernel
set_option maxRecDepth 20000 in
theorem ggX1_rank_X1_countIn : GoodIn wsX1_rank wsX1_countIn := goodIn_r _ [5] (by decide +kernel) (by decide +kernel)
set_option maxRecDepth 20000 in
theorem gX1_rank_X1_countIn : GoodIn wsX1_rank (va_wsS RX1 20 yX1_countIn wsX1_countIn) := goodIn_app (goodIn_of _ (by decide +kernel)) ggX1_rank_X1_countIn
theorem dX1_rank_0 : decode cX1_rank 0 = .ok (.iconst 0, 1) := by decide +kernel
theorem dX1_rank_1 : decode cX1_rank 1 = .ok (.istore_n 1, 1) := by decide +kernel
theorem dX1_rank_2 : decode cX1_rank 2 = .ok (.iconst 0, 1) := by decide +kernel
theorem dX1_rank_3 : decode cX1_rank 3 = .ok (.istore_n 2, 1) := by decide +kernel
theorem dX1_rank_4 : decode cX1_rank 4 = .ok (.iconst 0, 1) := by decide +kernel
theorem dX1_rank_5 : decode cX1_rank 5 = .ok (.istore_n 3, 1) := by decide +kernel
theorem dX1_rank_6 : decode cX1_rank 6 = .ok (.iload_n 3, 1) := by decide +kernel
theorem dX1_rank_7 : decode cX1_rank 7 = .ok (.iconst 1, 1) := by decide +kernel
theorem dX1_rank_8 : decode cX1_rank 8 = .ok (.iadd, 1) := by decide +kernel
theorem dX1_rank_9 : decode cX1_rank 9 = .ok (.bipush 6, 2) := by decide +kernel
theorem dX1_rank_11 : decode cX1_rank 11 = .ok (.if_icmp .ge 40, 3) := by decide +kernel
theorem dX1_rank_14 : decode cX1_rank 14 = .ok (.iload_n 2, 1) := by decide +kernel
theorem dX1_rank_15 : decode cX1_rank 15 = .ok (.iload_n 0, 1) := by decide +kernel
theorem dX1_rank_16 : decode cX1_rank 16 = .ok (.iload_n 3, 1) := by decide +kernel
theorem dX1_rank_17 : decode cX1_rank 17 = .ok (.invokestatic 20, 3) := by decide +kernel
theorem dX1_rank_20 : decode cX1_rank 20 = .ok (.iadd, 1) := by decide +kernel
theorem dX1_rank_21 : decode cX1_rank 21 = .ok (.istore_n 2, 1) := by decide +kernel
theorem dX1_rank_22 : decode cX1_rank 22 = .ok (.iload_n 2, 1) := by decide +kernel
theorem dX1_rank_23 : decode cX1_rank 23 = .ok (.bipush 6, 2) := by decide +kernel
theorem dX1_rank_25 : decode cX1_rank 25 = .ok (.if_icmp .le 5, 3) := by decide +kernel
theorem dX1_rank_28 : decode cX1_rank 28 = .ok (.iconst (-1), 1) := by decide +kernel
theorem dX1_rank_29 : decode cX1_rank 29 = .ok (.ireturn, 1) := by decide +kernel
theorem dX1_rank_30 : decode cX1_rank 30 = .ok (.iload_n 1, 1) := by decide +kernel
theorem dX1_rank_31 : decode cX1_rank 31 = .ok (.getstatic 27, 3) := by decide +kernel
theorem dX1_rank_34 : decode cX1_rank 34 = .ok (.iload_n 3, 1) := by decide +kernel
theorem dX1_rank_35 : decode cX1_rank 35 = .ok (.bipush 11, 2) := by decide +kernel
theorem dX1_rank_37 : decode cX1_rank 37 = .ok (.imul, 1) := by decide +kernel
theorem dX1_rank_38 : decode cX1_rank 38 = .ok (.iload_n 2, 1) := by decide +kernel
theorem dX1_rank_39 : decode cX1_rank 39 = .ok (.iadd, 1) := by decide +kernel
theorem dX1_rank_40 : decode cX1_rank 40 = .ok (.iload_n 3, 1) := by decide +kernel
theorem dX1_rank_41 : decode cX1_rank 41 = .ok (.iadd, 1) := by decide +kernel
theorem dX1_rank_42 : decode cX1_rank 42 = .ok (.iaload, 1) := by decide +kernel
theorem dX1_rank_43 : decode cX1_rank 43 = .ok (.iadd, 1) := by decide +kernel
theorem dX1_rank_44 : decode cX1_rank 44 = .ok (.istore_n 1, 1) := by decide +kernel
theorem dX1_rank_45 : decode cX1_rank 45 = .ok (.iinc 3 1, 3) := by decide +kernel
theorem dX1_rank_48 : decode cX1_rank 48 = .ok (.goto (-42), 3) := by decide +kernel
theorem dX1_rank_51 : decode cX1_rank 51 = .ok (.iload_n 1, 1) := by decide +kernel
theorem dX1_rank_52 : decode cX1_rank 52 = .ok (.ireturn, 1) := by decide +kernel
set_option maxRecDepth 20000 in
theorem ggX1_agreement_X1_countIn : GoodIn wsX1_agreement wsX1_countIn := goodIn_r _ [4] (by decide +kernel) (by decide +kernel)
set_option maxRecDepth 20000 in
theorem gX1_agreement_X1_countIn : GoodIn wsX1_agreement (va_wsS RX1 20 yX1_countIn wsX1_countIn) := goodIn_app (goodIn_of _ (by decide +kernel)) ggX1_agreement_X1_countIn
theorem dX1_agreement_0 : decode cX1_agreement 0 = .ok (.bipush (-9), 2) := by decide +kernel
theorem dX1_agreement_2 : decode cX1_agreement 2 = .ok (.istore_n 2, 1) := by decide +kernel
theorem dX1_agreement_3 : decode cX1_agreement 3 = .ok (.iconst 0, 1) := by decide +kernel
theorem dX1_agreement_4 : decode cX1_agreement 4 = .ok (.istore_n 3, 1) := by decide +kernel
theorem dX1_agreement_5 : decode cX1_agreement 5 = .ok (.iload_n 3, 1) := by decide +kernel
theorem dX1_agreement_6 : decode cX1_agreement 6 = .ok (.bipush 6, 2) := by decide +kernel
theorem dX1_agreement_8 : decode cX1_agreement 8 = .ok (.if_icmp .ge 37, 3) := by decide +kernel
theorem dX1_agreement_11 : decode cX1_agreement 11 = .ok (.iload_n 0, 1) := by decide +kernel
theorem dX1_agreement_12 : decode cX1_agreement 12 = .ok (.iload_n 3, 1) := by decide +kernel
theorem dX1_agreement_13 : decode cX1_agreement 13 = .ok (.invokestatic 20, 3) := by decide +kernel
theorem dX1_agreement_16 : decode cX1_agreement 16 = .ok (.ifCond .le 23, 3) := by decide +kernel
theorem dX1_agreement_19 : decode cX1_agreement 19 = .ok (.iload_n 2, 1) := by decide +kernel
theorem dX1_agreement_20 : decode cX1_agreement 20 = .ok (.bipush (-9), 2) := by decide +kernel
theorem dX1_agreement_22 : decode cX1_agreement 22 = .ok (.if_icmp .eq 13, 3) := by decide +kernel
theorem dX1_agreement_25 : decode cX1_agreement 25 = .ok (.iload_n 2, 1) := by decide +kernel
theorem dX1_agreement_26 : decode cX1_agreement 26 = .ok (.aload_n 1, 1) := by decide +kernel
theorem dX1_agreement_27 : decode cX1_agreement 27 = .ok (.iload_n 3, 1) := by decide +kernel
theorem dX1_agreement_28 : decode cX1_agreement 28 = .ok (.iaload, 1) := by decide +kernel
theorem dX1_agreement_29 : decode cX1_agreement 29 = .ok (.if_icmp .eq 6, 3) := by decide +kernel
theorem dX1_agreement_32 : decode cX1_agreement 32 = .ok (.bipush (-9), 2) := by decide +kernel
theorem dX1_agreement_34 : decode cX1_agreement 34 = .ok (.ireturn, 1) := by decide +kernel
theorem dX1_agreement_35 : decode cX1_agreement 35 = .ok (.aload_n 1, 1) := by decide +kernel
theorem dX1_agreement_36 : decode cX1_agreement 36 = .ok (.iload_n 3, 1) := by decide +kernel
theorem dX1_agreement_37 : decode cX1_agreement 37 = .ok (.iaload, 1) := by decide +kernel
theorem dX1_agreement_38 : decode cX1_agreement 38 = .ok (.istore_n 2, 1) := by decide +kernel
theorem dX1_agreement_39 : decode cX1_agreement 39 = .ok (.iinc 3 1, 3) := by decide +kernel
theorem dX1_agreement_42 : decode cX1_agreement 42 = .ok (.goto (-37), 3) := by decide +kernel
theorem dX1_agreement_45 : decode cX1_agreement 45 = .ok (.iload_n 2, 1) := by decide +kernel
theorem dX1_agreement_46 : decode cX1_agreement 46 = .ok (.ireturn, 1) := by decide +kernel
theorem dX2_init_0 : decode cX2_init 0 = .ok (.aload_n 0, 1) := by decide +kernel
theorem dX2_init_1 : decode cX2_init 1 = .ok (.invokespecial 3, 3) := by decide +kernel
theorem dX2_init_4 : decode cX2_init 4 = .ok (.aload_n 0, 1) := by decide +kernel
theorem dX2_init_5 : decode cX2_init 5 = .ok (.bipush 6, 2) := by decide +kernel
theorem dX2_init_7 : decode cX2_init 7 = .ok (.newarray .int, 2) := by decide +kernel
theorem dX2_init_9 : decode cX2_init 9 = .ok (.putfield 9, 3) := by decide +kernel
theorem dX2_init_12 : decode cX2_init 12 = .ok (.aload_n 0, 1) := by decide +kernel
theorem dX2_init_13 : decode cX2_init 13 = .ok (.bipush 36, 2) := by decide +kernel
theorem dX2_init_15 : decode cX2_init 15 = .ok (.newarray .int, 2) := by decide +kernel
theorem dX2_init_17 : decode cX2_init 17 = .ok (.putfield 15, 3) := by decide +kernel
theorem dX2_init_20 : decode cX2_init 20 = .ok (.aload_n 0, 1) := by decide +kernel
theorem dX2_init_21 : decode cX2_init 21 = .ok (.iconst 1, 1) := by decide +kernel
theorem dX2_init_22 : decode cX2_init 22 = .ok (.putfield 18, 3) := by decide +kernel
theorem dX2_init_25 : decode cX2_init 25 = .ok (.return_, 1) := by decide +kernel
set_option maxRecDepth 20000 in
theorem ggX2_leave_J7_fill_53178 : GoodIn wsX2_leave wsJ7_fill_53178 := goodIn_r _ [8] (by decide +kernel) (by decide +kernel)
set_option maxRecDepth 20000 in
theorem gX2_leave_J7_fill_53178 : GoodIn wsX2_leave (va_wsS RX2 22 yJ7_fill_53178 wsJ7_fill_53178) := goodIn_app (goodIn_of _ (by decide +kernel)) ggX2_leave_J7_fill_53178
theorem dX2_leave_0 : decode cX2_leave 0 = .ok (.aload_n 0, 1) := by decide +kernel
theorem dX2_leave_1 : decode cX2_leave 1 = .ok (.getfield 15, 3) := by decide +kernel
theorem dX2_leave_4 : decode cX2_leave 4 = .ok (.iconst 0, 1) := by decide +kernel
theorem dX2_leave_5 : decode cX2_leave 5 = .ok (.invokestatic 22, 3) := by decide +kernel
theorem dX2_leave_8 : decode cX2_leave 8 = .ok (.aload_n 0, 1) := by decide +kernel
theorem dX2_leave_9 : decode cX2_leave 9 = .ok (.iconst 0, 1) := by decide +kernel
theorem dX2_leave_10 : decode cX2_leave 10 = .ok (.putfield 28, 3) := by decide +kernel
theorem dX2_leave_13 : decode cX2_leave 13 = .ok (.aload_n 0, 1) := by decide +kernel
theorem dX2_leave_14 : decode cX2_leave 14 = .ok (.iconst 0, 1) := by decide +kernel
theorem dX2_leave_15 : decode cX2_leave 15 = .ok (.putfield 31, 3) := by decide +kernel
theorem dX2_leave_18 : decode cX2_leave 18 = .ok (.aload_n 0, 1) := by decide +kernel
theorem dX2_leave_19 : decode cX2_leave 19 = .ok (.iconst 0, 1) := by decide +kernel
theorem dX2_leave_20 : decode cX2_leave 20 = .ok (.putfield 34, 3) := by decide +kernel
theorem dX2_leave_23 : decode cX2_leave 23 = .ok (.return_, 1) := by decide +kernel
theorem dX2_come_0 : decode cX2_come 0 = .ok (.iconst 0, 1) := by decide +kernel
theorem dX2_come_1 : decode cX2_come 1 = .ok (.istore_n 3, 1) := by decide +kernel
theorem dX2_come_2 : decode cX2_come 2 = .ok (.iload_n 3, 1) := by decide +kernel
theorem dX2_come_3 : decode cX2_come 3 = .ok (.iload_n 2, 1) := by decide +kernel
theorem dX2_come_4 : decode cX2_come 4 = .ok (.if_icmp .ge 38, 3) := by decide +kernel
theorem dX2_come_7 : decode cX2_come 7 = .ok (.aload_n 0, 1) := by decide +kernel
theorem dX2_come_8 : decode cX2_come 8 = .ok (.getfield 28, 3) := by decide +kernel
theorem dX2_come_11 : decode cX2_come 11 = .ok (.bipush 6, 2) := by decide +kernel
theorem dX2_come_13 : decode cX2_come 13 = .ok (.if_icmp .ge 29, 3) := by decide +kernel
theorem dX2_come_16 : decode cX2_come 16 = .ok (.aload_n 0, 1) := by decide +kernel
theorem dX2_come_17 : decode cX2_come 17 = .ok (.getfield 9, 3) := by decide +kernel
theorem dX2_come_20 : decode cX2_come 20 = .ok (.aload_n 0, 1) := by decide +kernel
theorem dX2_come_21 : decode cX2_come 21 = .ok (.getfield 28, 3) := by decide +kernel
theorem dX2_come_24 : decode cX2_come 24 = .ok (.iload_n 1, 1) := by decide +kernel
theorem dX2_come_25 : decode cX2_come 25 = .ok (.iastore, 1) := by decide +kernel
theorem dX2_come_26 : decode cX2_come 26 = .ok (.aload_n 0, 1) := by decide +kernel
theorem dX2_come_27 : decode cX2_come 27 = .ok (.dup, 1) := by decide +kernel
theorem dX2_come_28 : decode cX2_come 28 = .ok (.getfield 28, 3) := by decide +kernel
theorem dX2_come_31 : decode cX2_come 31 = .ok (.iconst 1, 1) := by decide +kernel
theorem dX2_come_32 : decode cX2_come 32 = .ok (.iadd, 1) := by decide +kernel
theorem dX2_come_33 : decode cX2_come 33 = .ok (.putfield 28, 3) := by decide +kernel
theorem dX2_come_36 : decode cX2_come 36 = .ok (.iinc 3 1, 3) := by decide +kernel
theorem dX2_come_39 : decode cX2_come 39 = .ok (.goto (-37), 3) := by decide +kernel
theorem dX2_come_42 : decode cX2_come 42 = .ok (.return_, 1) := by decide +kernel
theorem dX2_has_0 : decode cX2_has 0 = .ok (.iload_n 1, 1) := by decide +kernel
theorem dX2_has_1 : decode cX2_has 1 = .ok (.ifCond .lt 15, 3) := by decide +kernel
theorem dX2_has_4 : decode cX2_has 4 = .ok (.iload_n 1, 1) := by decide +kernel
theorem dX2_has_5 : decode cX2_has 5 = .ok (.aload_n 0, 1) := by decide +kernel
theorem dX2_has_6 : decode cX2_has 6 = .ok (.getfield 28, 3) := by decide +kernel
theorem dX2_has_9 : decode cX2_has 9 = .ok (.if_icmp .ge 7, 3) := by decide +kernel
theorem dX2_has_12 : decode cX2_has 12 = .ok (.iconst 1, 1) := by decide +kernel
theorem dX2_has_13 : decode cX2_has 13 = .ok (.goto 4, 3) := by decide +kernel
theorem dX2_has_16 : decode cX2_has 16 = .ok (.iconst 0, 1) := by decide +kernel
theorem dX2_has_17 : decode cX2_has 17 = .ok (.ireturn, 1) := by decide +kernel
theorem dX2_stateOf_0 : decode cX2_stateOf 0 = .ok (.aload_n 0, 1) := by decide +kernel
theorem dX2_stateOf_1 : decode cX2_stateOf 1 = .ok (.getfield 9, 3) := by decide +kernel
theorem dX2_stateOf_4 : decode cX2_stateOf 4 = .ok (.iload_n 1, 1) := by decide +kernel
theorem dX2_stateOf_5 : decode cX2_stateOf 5 = .ok (.iaload, 1) := by decide +kernel
theorem dX2_stateOf_6 : decode cX2_stateOf 6 = .ok (.ireturn, 1) := by decide +kernel
set_option maxRecDepth 20000 in
theorem ggX2_configuration_X1_one : GoodIn wsX2_configuration wsX1_one := goodIn_r _ [6] (by decide +kernel) (by decide +kernel)
set_option maxRecDepth 20000 in
theorem gX2_configuration_X1_one : GoodIn wsX2_configuration (va_wsS RX2 37 yX1_one wsX1_one) := goodIn_app (goodIn_of _ (by decide +kernel)) ggX2_configuration_X1_one
theorem dX2_configuration_0 : decode cX2_configuration 0 = .ok (.iconst 0, 1) := by decide +kernel
theorem dX2_configuration_1 : decode cX2_configuration 1 = .ok (.istore_n 1, 1) := by decide +kernel
theorem dX2_configuration_2 : decode cX2_configuration 2 = .ok (.iconst 0, 1) := by decide +kernel
theorem dX2_configuration_3 : decode cX2_configuration 3 = .ok (.istore_n 2, 1) := by decide +kernel
theorem dX2_configuration_4 : decode cX2_configuration 4 = .ok (.iload_n 2, 1) := by decide +kernel
theorem dX2_configuration_5 : decode cX2_configuration 5 = .ok (.aload_n 0, 1) := by decide +kernel
theorem dX2_configuration_6 : decode cX2_configuration 6 = .ok (.getfield 28, 3) := by decide +kernel
theorem dX2_configuration_9 : decode cX2_configuration 9 = .ok (.if_icmp .ge 21, 3) := by decide +kernel
theorem dX2_configuration_12 : decode cX2_configuration 12 = .ok (.iload_n 1, 1) := by decide +kernel
theorem dX2_configuration_13 : decode cX2_configuration 13 = .ok (.aload_n 0, 1) := by decide +kernel
theorem dX2_configuration_14 : decode cX2_configuration 14 = .ok (.getfield 9, 3) := by decide +kernel
theorem dX2_configuration_17 : decode cX2_configuration 17 = .ok (.iload_n 2, 1) := by decide +kernel
theorem dX2_configuration_18 : decode cX2_configuration 18 = .ok (.iaload, 1) := by decide +kernel
theorem dX2_configuration_19 : decode cX2_configuration 19 = .ok (.invokestatic 37, 3) := by decide +kernel
theorem dX2_configuration_22 : decode cX2_configuration 22 = .ok (.iadd, 1) := by decide +kernel
theorem dX2_configuration_23 : decode cX2_configuration 23 = .ok (.istore_n 1, 1) := by decide +kernel
theorem dX2_configuration_24 : decode cX2_configuration 24 = .ok (.iinc 2 1, 3) := by decide +kernel
theorem dX2_configuration_27 : decode cX2_configuration 27 = .ok (.goto (-23), 3) := by decide +kernel
theorem dX2_configuration_30 : decode cX2_configuration 30 = .ok (.iload_n 1, 1) := by decide +kernel
theorem dX2_configuration_31 : decode cX2_configuration 31 = .ok (.ireturn, 1) := by decide +kernel
set_option maxRecDepth 20000 in
theorem ggX2_bringTogether_X5_of : GoodIn wsX2_bringTogether wsX5_of := goodIn_r _ [8] (by decide +kernel) (by decide +kernel)
set_option maxRecDepth 20000 in
theorem gX2_bringTogether_X5_of : GoodIn wsX2_bringTogether (va_wsS RX2 43 yX5_of wsX5_of) := goodIn_app (goodIn_of _ (by decide +kernel)) ggX2_bringTogether_X5_of
set_option maxRecDepth 20000 in
theorem ggX2_bringTogether_X4_outcome : GoodIn wsX2_bringTogether wsX4_outcome := goodIn_r _ [13, 14, 27, 28, 29] (by decide +kernel) (by decide +kernel)
set_option maxRecDepth 20000 in
theorem gX2_bringTogether_X4_outcome : GoodIn wsX2_bringTogether (wsV RX2 49 RX4 yX4_outcome wsX4_outcome) := goodIn_app (goodIn_of _ (by decide +kernel)) ggX2_bringTogether_X4_outcome
set_option maxRecDepth 20000 in
theorem ggX2_bringTogether_X5_first : GoodIn wsX2_bringTogether wsX5_first := goodIn_r _ [17] (by decide +kernel) (by decide +kernel)
set_option maxRecDepth 20000 in
theorem gX2_bringTogether_X5_first : GoodIn wsX2_bringTogether (va_wsS RX2 54 yX5_first wsX5_first) := goodIn_app (goodIn_of _ (by decide +kernel)) ggX2_bringTogether_X5_first
set_option maxRecDepth 20000 in
theorem ggX2_bringTogether_X5_second : GoodIn wsX2_bringTogether wsX5_second := goodIn_r _ [20] (by decide +kernel) (by decide +kernel)
set_option maxRecDepth 20000 in
theorem gX2_bringTogether_X5_second : GoodIn wsX2_bringTogether (va_wsS RX2 57 yX5_second wsX5_second) := goodIn_app (goodIn_of _ (by decide +kernel)) ggX2_bringTogether_X5_second
theorem dX2_bringTogether_0 : decode cX2_bringTogether 0 = .ok (.aload_n 0, 1) := by decide +kernel
theorem dX2_bringTogether_1 : decode cX2_bringTogether 1 = .ok (.dup, 1) := by decide +kernel
theorem dX2_bringTogether_2 : decode cX2_bringTogether 2 = .ok (.getfield 31, 3) := by decide +kernel
theorem dX2_bringTogether_5 : decode cX2_bringTogether 5 = .ok (.iconst 1, 1) := by decide +kernel
theorem dX2_bringTogether_6 : decode cX2_bringTogether 6 = .ok (.iadd, 1) := by decide +kernel
theorem dX2_bringTogether_7 : decode cX2_bringTogether 7 = .ok (.putfield 31, 3) := by decide +kernel
theorem dX2_bringTogether_10 : decode cX2_bringTogether 10 = .ok (.aload_n 0, 1) := by decide +kernel
theorem dX2_bringTogether_11 : decode cX2_bringTogether 11 = .ok (.getfield 15, 3) := by decide +kernel
theorem dX2_bringTogether_14 : decode cX2_bringTogether 14 = .ok (.iload_n 2, 1) := by decide +kernel
theorem dX2_bringTogether_15 : decode cX2_bringTogether 15 = .ok (.bipush 6, 2) := by decide +kernel
theorem dX2_bringTogether_17 : decode cX2_bringTogether 17 = .ok (.imul, 1) := by decide +kernel
theorem dX2_bringTogether_18 : decode cX2_bringTogether 18 = .ok (.iload_n 3, 1) := by decide +kernel
theorem dX2_bringTogether_19 : decode cX2_bringTogether 19 = .ok (.iadd, 1) := by decide +kernel
theorem dX2_bringTogether_20 : decode cX2_bringTogether 20 = .ok (.aload_n 0, 1) := by decide +kernel
theorem dX2_bringTogether_21 : decode cX2_bringTogether 21 = .ok (.getfield 31, 3) := by decide +kernel
theorem dX2_bringTogether_24 : decode cX2_bringTogether 24 = .ok (.iastore, 1) := by decide +kernel
theorem dX2_bringTogether_25 : decode cX2_bringTogether 25 = .ok (.aload_n 0, 1) := by decide +kernel
theorem dX2_bringTogether_26 : decode cX2_bringTogether 26 = .ok (.getfield 9, 3) := by decide +kernel
theorem dX2_bringTogether_29 : decode cX2_bringTogether 29 = .ok (.iload_n 2, 1) := by decide +kernel
theorem dX2_bringTogether_30 : decode cX2_bringTogether 30 = .ok (.iaload, 1) := by decide +kernel
theorem dX2_bringTogether_31 : decode cX2_bringTogether 31 = .ok (.aload_n 0, 1) := by decide +kernel
theorem dX2_bringTogether_32 : decode cX2_bringTogether 32 = .ok (.getfield 9, 3) := by decide +kernel
theorem dX2_bringTogether_35 : decode cX2_bringTogether 35 = .ok (.iload_n 3, 1) := by decide +kernel
theorem dX2_bringTogether_36 : decode cX2_bringTogether 36 = .ok (.iaload, 1) := by decide +kernel
theorem dX2_bringTogether_37 : decode cX2_bringTogether 37 = .ok (.invokestatic 43, 3) := by decide +kernel
theorem dX2_bringTogether_40 : decode cX2_bringTogether 40 = .ok (.istore 4, 2) := by decide +kernel
theorem dX2_bringTogether_42 : decode cX2_bringTogether 42 = .ok (.aload_n 1, 1) := by decide +kernel
theorem dX2_bringTogether_43 : decode cX2_bringTogether 43 = .ok (.iload 4, 2) := by decide +kernel
theorem dX2_bringTogether_45 : decode cX2_bringTogether 45 = .ok (.invokevirtual 49, 3) := by decide +kernel
theorem dX2_bringTogether_48 : decode cX2_bringTogether 48 = .ok (.istore 5, 2) := by decide +kernel
theorem dX2_bringTogether_50 : decode cX2_bringTogether 50 = .ok (.iload 5, 2) := by decide +kernel
theorem dX2_bringTogether_52 : decode cX2_bringTogether 52 = .ok (.ifCond .lt 10, 3) := by decide +kernel
theorem dX2_bringTogether_55 : decode cX2_bringTogether 55 = .ok (.iload 5, 2) := by decide +kernel
theorem dX2_bringTogether_57 : decode cX2_bringTogether 57 = .ok (.iload 4, 2) := by decide +kernel
theorem dX2_bringTogether_59 : decode cX2_bringTogether 59 = .ok (.if_icmp .ne 5, 3) := by decide +kernel
theorem dX2_bringTogether_62 : decode cX2_bringTogether 62 = .ok (.iconst 0, 1) := by decide +kernel
theorem dX2_bringTogether_63 : decode cX2_bringTogether 63 = .ok (.ireturn, 1) := by decide +kernel
theorem dX2_bringTogether_64 : decode cX2_bringTogether 64 = .ok (.aload_n 0, 1) := by decide +kernel
theorem dX2_bringTogether_65 : decode cX2_bringTogether 65 = .ok (.getfield 9, 3) := by decide +kernel
theorem dX2_bringTogether_68 : decode cX2_bringTogether 68 = .ok (.iload_n 2, 1) := by decide +kernel
theorem dX2_bringTogether_69 : decode cX2_bringTogether 69 = .ok (.iload 5, 2) := by decide +kernel
theorem dX2_bringTogether_71 : decode cX2_bringTogether 71 = .ok (.invokestatic 54, 3) := by decide +kernel
theorem dX2_bringTogether_74 : decode cX2_bringTogether 74 = .ok (.iastore, 1) := by decide +kernel
theorem dX2_bringTogether_75 : decode cX2_bringTogether 75 = .ok (.aload_n 0, 1) := by decide +kernel
theorem dX2_bringTogether_76 : decode cX2_bringTogether 76 = .ok (.getfield 9, 3) := by decide +kernel
theorem dX2_bringTogether_79 : decode cX2_bringTogether 79 = .ok (.iload_n 3, 1) := by decide +kernel
theorem dX2_bringTogether_80 : decode cX2_bringTogether 80 = .ok (.iload 5, 2) := by decide +kernel
theorem dX2_bringTogether_82 : decode cX2_bringTogether 82 = .ok (.invokestatic 57, 3) := by decide +kernel
theorem dX2_bringTogether_85 : decode cX2_bringTogether 85 = .ok (.iastore, 1) := by decide +kernel
theorem dX2_bringTogether_86 : decode cX2_bringTogether 86 = .ok (.aload_n 0, 1) := by decide +kernel
theorem dX2_bringTogether_87 : decode cX2_bringTogether 87 = .ok (.dup, 1) := by decide +kernel
theorem dX2_bringTogether_88 : decode cX2_bringTogether 88 = .ok (.getfield 34, 3) := by decide +kernel
theorem dX2_bringTogether_91 : decode cX2_bringTogether 91 = .ok (.iconst 1, 1) := by decide +kernel
theorem dX2_bringTogether_92 : decode cX2_bringTogether 92 = .ok (.iadd, 1) := by decide +kernel
theorem dX2_bringTogether_93 : decode cX2_bringTogether 93 = .ok (.putfield 34, 3) := by decide +kernel
theorem dX2_bringTogether_96 : decode cX2_bringTogether 96 = .ok (.iconst 1, 1) := by decide +kernel
theorem dX2_bringTogether_97 : decode cX2_bringTogether 97 = .ok (.ireturn, 1) := by decide +kernel
set_option maxRecDepth 20000 in
theorem ggX2_bringDrawn_X2_bringTogether : GoodIn wsX2_bringDrawn wsX2_bringTogether := goodIn_r _ [8, 9, 10, 11, 12, 13, 14, 15, 16, 17, 18, 19, 20, 21, 22, 23, 24, 25, 26, 27, 28, 29, 30, 31, 32, 33, 34, 35, 36, 37] (by decide +kernel) (by decide +kernel)
set_option maxRecDepth 20000 in
theorem gX2_bringDrawn_X2_bringTogether : GoodIn wsX2_bringDrawn (wsV RX2 61 RX2 yX2_bringTogether wsX2_bringTogether) := goodIn_app (goodIn_of _ (by decide +kernel)) ggX2_bringDrawn_X2_bringTogether
theorem dX2_bringDrawn_0 : decode cX2_bringDrawn 0 = .ok (.aload_n 0, 1) := by decide +kernel
theorem dX2_bringDrawn_1 : decode cX2_bringDrawn 1 = .ok (.getfield 28, 3) := by decide +kernel
theorem dX2_bringDrawn_4 : decode cX2_bringDrawn 4 = .ok (.iconst 1, 1) := by decide +kernel
theorem dX2_bringDrawn_5 : decode cX2_bringDrawn 5 = .ok (.isub, 1) := by decide +kernel
theorem dX2_bringDrawn_6 : decode cX2_bringDrawn 6 = .ok (.istore_n 2, 1) := by decide +kernel
theorem dX2_bringDrawn_7 : decode cX2_bringDrawn 7 = .ok (.iload_n 2, 1) := by decide +kernel
theorem dX2_bringDrawn_8 : decode cX2_bringDrawn 8 = .ok (.iconst 1, 1) := by decide +kernel
theorem dX2_bringDrawn_9 : decode cX2_bringDrawn 9 = .ok (.if_icmp .ge 5, 3) := by decide +kernel
theorem dX2_bringDrawn_12 : decode cX2_bringDrawn 12 = .ok (.iconst 0, 1) := by decide +kernel
theorem dX2_bringDrawn_13 : decode cX2_bringDrawn 13 = .ok (.ireturn, 1) := by decide +kernel
theorem dX2_bringDrawn_14 : decode cX2_bringDrawn 14 = .ok (.aload_n 0, 1) := by decide +kernel
theorem dX2_bringDrawn_15 : decode cX2_bringDrawn 15 = .ok (.ldc 60, 2) := by decide +kernel
theorem dX2_bringDrawn_17 : decode cX2_bringDrawn 17 = .ok (.aload_n 0, 1) := by decide +kernel
theorem dX2_bringDrawn_18 : decode cX2_bringDrawn 18 = .ok (.getfield 18, 3) := by decide +kernel
theorem dX2_bringDrawn_21 : decode cX2_bringDrawn 21 = .ok (.imul, 1) := by decide +kernel
theorem dX2_bringDrawn_22 : decode cX2_bringDrawn 22 = .ok (.sipush 12345, 3) := by decide +kernel
theorem dX2_bringDrawn_25 : decode cX2_bringDrawn 25 = .ok (.iadd, 1) := by decide +kernel
theorem dX2_bringDrawn_26 : decode cX2_bringDrawn 26 = .ok (.putfield 18, 3) := by decide +kernel
theorem dX2_bringDrawn_29 : decode cX2_bringDrawn 29 = .ok (.aload_n 0, 1) := by decide +kernel
theorem dX2_bringDrawn_30 : decode cX2_bringDrawn 30 = .ok (.getfield 18, 3) := by decide +kernel
theorem dX2_bringDrawn_33 : decode cX2_bringDrawn 33 = .ok (.bipush 16, 2) := by decide +kernel
theorem dX2_bringDrawn_35 : decode cX2_bringDrawn 35 = .ok (.iushr, 1) := by decide +kernel
theorem dX2_bringDrawn_36 : decode cX2_bringDrawn 36 = .ok (.aload_n 0, 1) := by decide +kernel
theorem dX2_bringDrawn_37 : decode cX2_bringDrawn 37 = .ok (.getfield 28, 3) := by decide +kernel
theorem dX2_bringDrawn_40 : decode cX2_bringDrawn 40 = .ok (.iload_n 2, 1) := by decide +kernel
theorem dX2_bringDrawn_41 : decode cX2_bringDrawn 41 = .ok (.imul, 1) := by decide +kernel
theorem dX2_bringDrawn_42 : decode cX2_bringDrawn 42 = .ok (.irem, 1) := by decide +kernel
theorem dX2_bringDrawn_43 : decode cX2_bringDrawn 43 = .ok (.istore_n 3, 1) := by decide +kernel
theorem dX2_bringDrawn_44 : decode cX2_bringDrawn 44 = .ok (.iload_n 3, 1) := by decide +kernel
theorem dX2_bringDrawn_45 : decode cX2_bringDrawn 45 = .ok (.iload_n 2, 1) := by decide +kernel
theorem dX2_bringDrawn_46 : decode cX2_bringDrawn 46 = .ok (.idiv, 1) := by decide +kernel
theorem dX2_bringDrawn_47 : decode cX2_bringDrawn 47 = .ok (.istore 4, 2) := by decide +kernel
theorem dX2_bringDrawn_49 : decode cX2_bringDrawn 49 = .ok (.iload_n 3, 1) := by decide +kernel
theorem dX2_bringDrawn_50 : decode cX2_bringDrawn 50 = .ok (.iload_n 2, 1) := by decide +kernel
theorem dX2_bringDrawn_51 : decode cX2_bringDrawn 51 = .ok (.irem, 1) := by decide +kernel
theorem dX2_bringDrawn_52 : decode cX2_bringDrawn 52 = .ok (.istore 5, 2) := by decide +kernel
theorem dX2_bringDrawn_54 : decode cX2_bringDrawn 54 = .ok (.aload_n 0, 1) := by decide +kernel
theorem dX2_bringDrawn_55 : decode cX2_bringDrawn 55 = .ok (.aload_n 1, 1) := by decide +kernel
theorem dX2_bringDrawn_56 : decode cX2_bringDrawn 56 = .ok (.iload 4, 2) := by decide +kernel
theorem dX2_bringDrawn_58 : decode cX2_bringDrawn 58 = .ok (.iload 5, 2) := by decide +kernel
theorem dX2_bringDrawn_60 : decode cX2_bringDrawn 60 = .ok (.iload 4, 2) := by decide +kernel
theorem dX2_bringDrawn_62 : decode cX2_bringDrawn 62 = .ok (.if_icmp .lt 10, 3) := by decide +kernel
theorem dX2_bringDrawn_65 : decode cX2_bringDrawn 65 = .ok (.iload 5, 2) := by decide +kernel
theorem dX2_bringDrawn_67 : decode cX2_bringDrawn 67 = .ok (.iconst 1, 1) := by decide +kernel
theorem dX2_bringDrawn_68 : decode cX2_bringDrawn 68 = .ok (.iadd, 1) := by decide +kernel
theorem dX2_bringDrawn_69 : decode cX2_bringDrawn 69 = .ok (.goto 5, 3) := by decide +kernel
theorem dX2_bringDrawn_72 : decode cX2_bringDrawn 72 = .ok (.iload 5, 2) := by decide +kernel
theorem dX2_bringDrawn_74 : decode cX2_bringDrawn 74 = .ok (.invokevirtual 61, 3) := by decide +kernel
theorem dX2_bringDrawn_77 : decode cX2_bringDrawn 77 = .ok (.ireturn, 1) := by decide +kernel
theorem dX2_waitOf_0 : decode cX2_waitOf 0 = .ok (.aload_n 0, 1) := by decide +kernel
theorem dX2_waitOf_1 : decode cX2_waitOf 1 = .ok (.getfield 31, 3) := by decide +kernel
theorem dX2_waitOf_4 : decode cX2_waitOf 4 = .ok (.aload_n 0, 1) := by decide +kernel
theorem dX2_waitOf_5 : decode cX2_waitOf 5 = .ok (.getfield 15, 3) := by decide +kernel
theorem dX2_waitOf_8 : decode cX2_waitOf 8 = .ok (.iload_n 1, 1) := by decide +kernel
theorem dX2_waitOf_9 : decode cX2_waitOf 9 = .ok (.bipush 6, 2) := by decide +kernel
theorem dX2_waitOf_11 : decode cX2_waitOf 11 = .ok (.imul, 1) := by decide +kernel
theorem dX2_waitOf_12 : decode cX2_waitOf 12 = .ok (.iload_n 2, 1) := by decide +kernel
theorem dX2_waitOf_13 : decode cX2_waitOf 13 = .ok (.iadd, 1) := by decide +kernel
theorem dX2_waitOf_14 : decode cX2_waitOf 14 = .ok (.iaload, 1) := by decide +kernel
theorem dX2_waitOf_15 : decode cX2_waitOf 15 = .ok (.isub, 1) := by decide +kernel
theorem dX2_waitOf_16 : decode cX2_waitOf 16 = .ok (.ireturn, 1) := by decide +kernel
set_option maxRecDepth 20000 in
theorem ggX2_isAbove_X2_waitOf : GoodIn wsX2_isAbove wsX2_waitOf := goodIn_r _ [5, 6, 7, 8, 9, 10, 11, 12, 13] (by decide +kernel) (by decide +kernel)
set_option maxRecDepth 20000 in
theorem gX2_isAbove_X2_waitOf : GoodIn wsX2_isAbove (wsV RX2 65 RX2 yX2_waitOf wsX2_waitOf) := goodIn_app (goodIn_of _ (by decide +kernel)) ggX2_isAbove_X2_waitOf
theorem dX2_isAbove_0 : decode cX2_isAbove 0 = .ok (.iload_n 1, 1) := by decide +kernel
theorem dX2_isAbove_1 : decode cX2_isAbove 1 = .ok (.iload_n 2, 1) := by decide +kernel
theorem dX2_isAbove_2 : decode cX2_isAbove 2 = .ok (.if_icmp .eq 17, 3) := by decide +kernel
theorem dX2_isAbove_5 : decode cX2_isAbove 5 = .ok (.aload_n 0, 1) := by decide +kernel
theorem dX2_isAbove_6 : decode cX2_isAbove 6 = .ok (.iload_n 1, 1) := by decide +kernel
theorem dX2_isAbove_7 : decode cX2_isAbove 7 = .ok (.iload_n 2, 1) := by decide +kernel
theorem dX2_isAbove_8 : decode cX2_isAbove 8 = .ok (.invokevirtual 65, 3) := by decide +kernel
theorem dX2_isAbove_11 : decode cX2_isAbove 11 = .ok (.iload_n 3, 1) := by decide +kernel
theorem dX2_isAbove_12 : decode cX2_isAbove 12 = .ok (.if_icmp .le 7, 3) := by decide +kernel
theorem dX2_isAbove_15 : decode cX2_isAbove 15 = .ok (.iconst 1, 1) := by decide +kernel
theorem dX2_isAbove_16 : decode cX2_isAbove 16 = .ok (.goto 4, 3) := by decide +kernel
theorem dX2_isAbove_19 : decode cX2_isAbove 19 = .ok (.iconst 0, 1) := by decide +kernel
theorem dX2_isAbove_20 : decode cX2_isAbove 20 = .ok (.ireturn, 1) := by decide +kernel
set_option maxRecDepth 20000 in
theorem ggX2_howManyAbove_X2_isAbove : GoodIn wsX2_howManyAbove wsX2_isAbove := goodIn_r _ [6, 7, 8, 9, 5, 10, 11, 12, 13, 14, 15, 16, 17, 18] (by decide +kernel) (by decide +kernel)
set_option maxRecDepth 20000 in
theorem gX2_howManyAbove_X2_isAbove : GoodIn wsX2_howManyAbove (wsV RX2 68 RX2 yX2_isAbove wsX2_isAbove) := goodIn_app (goodIn_of _ (by decide +kernel)) ggX2_howManyAbove_X2_isAbove
theorem dX2_howManyAbove_0 : decode cX2_howManyAbove 0 = .ok (.iconst 0, 1) := by decide +kernel
theorem dX2_howManyAbove_1 : decode cX2_howManyAbove 1 = .ok (.istore_n 2, 1) := by decide +kernel
theorem dX2_howManyAbove_2 : decode cX2_howManyAbove 2 = .ok (.iconst 0, 1) := by decide +kernel
theorem dX2_howManyAbove_3 : decode cX2_howManyAbove 3 = .ok (.istore_n 3, 1) := by decide +kernel
theorem dX2_howManyAbove_4 : decode cX2_howManyAbove 4 = .ok (.iload_n 3, 1) := by decide +kernel
theorem dX2_howManyAbove_5 : decode cX2_howManyAbove 5 = .ok (.aload_n 0, 1) := by decide +kernel
theorem dX2_howManyAbove_6 : decode cX2_howManyAbove 6 = .ok (.getfield 28, 3) := by decide +kernel
theorem dX2_howManyAbove_9 : decode cX2_howManyAbove 9 = .ok (.if_icmp .ge 41, 3) := by decide +kernel
theorem dX2_howManyAbove_12 : decode cX2_howManyAbove 12 = .ok (.iconst 0, 1) := by decide +kernel
theorem dX2_howManyAbove_13 : decode cX2_howManyAbove 13 = .ok (.istore 4, 2) := by decide +kernel
theorem dX2_howManyAbove_15 : decode cX2_howManyAbove 15 = .ok (.iload 4, 2) := by decide +kernel
theorem dX2_howManyAbove_17 : decode cX2_howManyAbove 17 = .ok (.aload_n 0, 1) := by decide +kernel
theorem dX2_howManyAbove_18 : decode cX2_howManyAbove 18 = .ok (.getfield 28, 3) := by decide +kernel
theorem dX2_howManyAbove_21 : decode cX2_howManyAbove 21 = .ok (.if_icmp .ge 23, 3) := by decide +kernel
theorem dX2_howManyAbove_24 : decode cX2_howManyAbove 24 = .ok (.aload_n 0, 1) := by decide +kernel
theorem dX2_howManyAbove_25 : decode cX2_howManyAbove 25 = .ok (.iload_n 3, 1) := by decide +kernel
theorem dX2_howManyAbove_26 : decode cX2_howManyAbove 26 = .ok (.iload 4, 2) := by decide +kernel
theorem dX2_howManyAbove_28 : decode cX2_howManyAbove 28 = .ok (.iload_n 1, 1) := by decide +kernel
theorem dX2_howManyAbove_29 : decode cX2_howManyAbove 29 = .ok (.invokevirtual 68, 3) := by decide +kernel
theorem dX2_howManyAbove_32 : decode cX2_howManyAbove 32 = .ok (.ifCond .eq 6, 3) := by decide +kernel
theorem dX2_howManyAbove_35 : decode cX2_howManyAbove 35 = .ok (.iinc 2 1, 3) := by decide +kernel
theorem dX2_howManyAbove_38 : decode cX2_howManyAbove 38 = .ok (.iinc 4 1, 3) := by decide +kernel
theorem dX2_howManyAbove_41 : decode cX2_howManyAbove 41 = .ok (.goto (-26), 3) := by decide +kernel
theorem dX2_howManyAbove_44 : decode cX2_howManyAbove 44 = .ok (.iinc 3 1, 3) := by decide +kernel
theorem dX2_howManyAbove_47 : decode cX2_howManyAbove 47 = .ok (.goto (-43), 3) := by decide +kernel
theorem dX2_howManyAbove_50 : decode cX2_howManyAbove 50 = .ok (.iload_n 2, 1) := by decide +kernel
theorem dX2_howManyAbove_51 : decode cX2_howManyAbove 51 = .ok (.ireturn, 1) := by decide +kernel
set_option maxRecDepth 20000 in
theorem ggX2_firstAbove_X2_isAbove : GoodIn wsX2_firstAbove wsX2_isAbove := goodIn_r _ [6, 7, 8, 9, 5, 10, 11, 12, 13, 14, 15, 16, 17, 18] (by decide +kernel) (by decide +kernel)
set_option maxRecDepth 20000 in
theorem gX2_firstAbove_X2_isAbove : GoodIn wsX2_firstAbove (wsV RX2 68 RX2 yX2_isAbove wsX2_isAbove) := goodIn_app (goodIn_of _ (by decide +kernel)) ggX2_firstAbove_X2_isAbove
theorem dX2_firstAbove_0 : decode cX2_firstAbove 0 = .ok (.iconst 0, 1) := by decide +kernel
theorem dX2_firstAbove_1 : decode cX2_firstAbove 1 = .ok (.istore_n 2, 1) := by decide +kernel
theorem dX2_firstAbove_2 : decode cX2_firstAbove 2 = .ok (.iload_n 2, 1) := by decide +kernel
theorem dX2_firstAbove_3 : decode cX2_firstAbove 3 = .ok (.aload_n 0, 1) := by decide +kernel
theorem dX2_firstAbove_4 : decode cX2_firstAbove 4 = .ok (.getfield 28, 3) := by decide +kernel
theorem dX2_firstAbove_7 : decode cX2_firstAbove 7 = .ok (.if_icmp .ge 42, 3) := by decide +kernel
theorem dX2_firstAbove_10 : decode cX2_firstAbove 10 = .ok (.iconst 0, 1) := by decide +kernel
theorem dX2_firstAbove_11 : decode cX2_firstAbove 11 = .ok (.istore_n 3, 1) := by decide +kernel
theorem dX2_firstAbove_12 : decode cX2_firstAbove 12 = .ok (.iload_n 3, 1) := by decide +kernel
theorem dX2_firstAbove_13 : decode cX2_firstAbove 13 = .ok (.aload_n 0, 1) := by decide +kernel
theorem dX2_firstAbove_14 : decode cX2_firstAbove 14 = .ok (.getfield 28, 3) := by decide +kernel
theorem dX2_firstAbove_17 : decode cX2_firstAbove 17 = .ok (.if_icmp .ge 26, 3) := by decide +kernel
theorem dX2_firstAbove_20 : decode cX2_firstAbove 20 = .ok (.aload_n 0, 1) := by decide +kernel
theorem dX2_firstAbove_21 : decode cX2_firstAbove 21 = .ok (.iload_n 2, 1) := by decide +kernel
theorem dX2_firstAbove_22 : decode cX2_firstAbove 22 = .ok (.iload_n 3, 1) := by decide +kernel
theorem dX2_firstAbove_23 : decode cX2_firstAbove 23 = .ok (.iload_n 1, 1) := by decide +kernel
theorem dX2_firstAbove_24 : decode cX2_firstAbove 24 = .ok (.invokevirtual 68, 3) := by decide +kernel
theorem dX2_firstAbove_27 : decode cX2_firstAbove 27 = .ok (.ifCond .eq 10, 3) := by decide +kernel
theorem dX2_firstAbove_30 : decode cX2_firstAbove 30 = .ok (.bipush 10, 2) := by decide +kernel
theorem dX2_firstAbove_32 : decode cX2_firstAbove 32 = .ok (.iload_n 2, 1) := by decide +kernel
theorem dX2_firstAbove_33 : decode cX2_firstAbove 33 = .ok (.imul, 1) := by decide +kernel
theorem dX2_firstAbove_34 : decode cX2_firstAbove 34 = .ok (.iload_n 3, 1) := by decide +kernel
theorem dX2_firstAbove_35 : decode cX2_firstAbove 35 = .ok (.iadd, 1) := by decide +kernel
theorem dX2_firstAbove_36 : decode cX2_firstAbove 36 = .ok (.ireturn, 1) := by decide +kernel
theorem dX2_firstAbove_37 : decode cX2_firstAbove 37 = .ok (.iinc 3 1, 3) := by decide +kernel
theorem dX2_firstAbove_40 : decode cX2_firstAbove 40 = .ok (.goto (-28), 3) := by decide +kernel
theorem dX2_firstAbove_43 : decode cX2_firstAbove 43 = .ok (.iinc 2 1, 3) := by decide +kernel
theorem dX2_firstAbove_46 : decode cX2_firstAbove 46 = .ok (.goto (-44), 3) := by decide +kernel
theorem dX2_firstAbove_49 : decode cX2_firstAbove 49 = .ok (.bipush (-9), 2) := by decide +kernel
theorem dX2_firstAbove_51 : decode cX2_firstAbove 51 = .ok (.ireturn, 1) := by decide +kernel
theorem dX3_init_0 : decode cX3_init 0 = .ok (.aload_n 0, 1) := by decide +kernel
theorem dX3_init_1 : decode cX3_init 1 = .ok (.invokespecial 3, 3) := by decide +kernel
theorem dX3_init_4 : decode cX3_init 4 = .ok (.aload_n 0, 1) := by decide +kernel
theorem dX3_init_5 : decode cX3_init 5 = .ok (.sipush 462, 3) := by decide +kernel
theorem dX3_init_8 : decode cX3_init 8 = .ok (.newarray .int, 2) := by decide +kernel
theorem dX3_init_10 : decode cX3_init 10 = .ok (.putfield 11, 3) := by decide +kernel
theorem dX3_init_13 : decode cX3_init 13 = .ok (.aload_n 0, 1) := by decide +kernel
theorem dX3_init_14 : decode cX3_init 14 = .ok (.sipush 462, 3) := by decide +kernel
theorem dX3_init_17 : decode cX3_init 17 = .ok (.newarray .int, 2) := by decide +kernel
theorem dX3_init_19 : decode cX3_init 19 = .ok (.putfield 17, 3) := by decide +kernel
theorem dX3_init_22 : decode cX3_init 22 = .ok (.aload_n 0, 1) := by decide +kernel
theorem dX3_init_23 : decode cX3_init 23 = .ok (.sipush 462, 3) := by decide +kernel
theorem dX3_init_26 : decode cX3_init 26 = .ok (.newarray .int, 2) := by decide +kernel
theorem dX3_init_28 : decode cX3_init 28 = .ok (.putfield 20, 3) := by decide +kernel
theorem dX3_init_31 : decode cX3_init 31 = .ok (.aload_n 0, 1) := by decide +kernel
theorem dX3_init_32 : decode cX3_init 32 = .ok (.sipush 5544, 3) := by decide +kernel
theorem dX3_init_35 : decode cX3_init 35 = .ok (.newarray .int, 2) := by decide +kernel
theorem dX3_init_37 : decode cX3_init 37 = .ok (.putfield 23, 3) := by decide +kernel
theorem dX3_init_40 : decode cX3_init 40 = .ok (.aload_n 0, 1) := by decide +kernel
theorem dX3_init_41 : decode cX3_init 41 = .ok (.sipush 462, 3) := by decide +kernel
theorem dX3_init_44 : decode cX3_init 44 = .ok (.newarray .int, 2) := by decide +kernel
theorem dX3_init_46 : decode cX3_init 46 = .ok (.putfield 26, 3) := by decide +kernel
theorem dX3_init_49 : decode cX3_init 49 = .ok (.aload_n 0, 1) := by decide +kernel
theorem dX3_init_50 : decode cX3_init 50 = .ok (.sipush 462, 3) := by decide +kernel
theorem dX3_init_53 : decode cX3_init 53 = .ok (.newarray .int, 2) := by decide +kernel
theorem dX3_init_55 : decode cX3_init 55 = .ok (.putfield 29, 3) := by decide +kernel
theorem dX3_init_58 : decode cX3_init 58 = .ok (.aload_n 0, 1) := by decide +kernel
theorem dX3_init_59 : decode cX3_init 59 = .ok (.sipush 462, 3) := by decide +kernel
theorem dX3_init_62 : decode cX3_init 62 = .ok (.newarray .boolean, 2) := by decide +kernel
theorem dX3_init_64 : decode cX3_init 64 = .ok (.putfield 32, 3) := by decide +kernel
theorem dX3_init_67 : decode cX3_init 67 = .ok (.aload_n 0, 1) := by decide +kernel
theorem dX3_init_68 : decode cX3_init 68 = .ok (.sipush 462, 3) := by decide +kernel
theorem dX3_init_71 : decode cX3_init 71 = .ok (.newarray .int, 2) := by decide +kernel
theorem dX3_init_73 : decode cX3_init 73 = .ok (.putfield 36, 3) := by decide +kernel
theorem dX3_init_76 : decode cX3_init 76 = .ok (.aload_n 0, 1) := by decide +kernel
theorem dX3_init_77 : decode cX3_init 77 = .ok (.sipush 462, 3) := by decide +kernel
theorem dX3_init_80 : decode cX3_init 80 = .ok (.newarray .int, 2) := by decide +kernel
theorem dX3_init_82 : decode cX3_init 82 = .ok (.putfield 39, 3) := by decide +kernel
theorem dX3_init_85 : decode cX3_init 85 = .ok (.aload_n 0, 1) := by decide +kernel
theorem dX3_init_86 : decode cX3_init 86 = .ok (.sipush 462, 3) := by decide +kernel
theorem dX3_init_89 : decode cX3_init 89 = .ok (.newarray .int, 2) := by decide +kernel
theorem dX3_init_91 : decode cX3_init 91 = .ok (.putfield 42, 3) := by decide +kernel
theorem dX3_init_94 : decode cX3_init 94 = .ok (.return_, 1) := by decide +kernel
set_option maxRecDepth 20000 in
theorem ggX3_explore_J7_fill_53178 : GoodIn wsX3_explore wsJ7_fill_53178 := goodIn_r _ [9] (by decide +kernel) (by decide +kernel)
set_option maxRecDepth 20000 in
theorem gX3_explore_J7_fill_53178 : GoodIn wsX3_explore (va_wsS RX3 45 yJ7_fill_53178 wsJ7_fill_53178) := goodIn_app (goodIn_of _ (by decide +kernel)) ggX3_explore_J7_fill_53178
set_option maxRecDepth 20000 in
theorem ggX3_explore_X3_place : GoodIn wsX3_explore wsX3_place := goodIn_r _ [14, 1, 4, 15, 16, 17, 18, 19, 20, 21, 22, 23, 24, 56, 57, 58, 59, 60, 61, 62, 63, 64, 65, 66, 67] (by decide +kernel) (by decide +kernel)
set_option maxRecDepth 20000 in
theorem gX3_explore_X3_place : GoodIn wsX3_explore (wsV RX3 61 RX3 yX3_place wsX3_place) := goodIn_app (goodIn_of _ (by decide +kernel)) ggX3_explore_X3_place
set_option maxRecDepth 20000 in
theorem ggX3_explore_X4_twoAt : GoodIn wsX3_explore wsX4_twoAt := goodIn_r _ [29, 30, 68, 69, 70] (by decide +kernel) (by decide +kernel)
set_option maxRecDepth 20000 in
theorem gX3_explore_X4_twoAt : GoodIn wsX3_explore (wsV RX3 65 RX4 yX4_twoAt wsX4_twoAt) := goodIn_app (goodIn_of _ (by decide +kernel)) ggX3_explore_X4_twoAt
set_option maxRecDepth 20000 in
theorem ggX3_explore_X4_outcomeAt : GoodIn wsX3_explore wsX4_outcomeAt := goodIn_r _ [34, 35, 30, 68, 69, 70] (by decide +kernel) (by decide +kernel)
set_option maxRecDepth 20000 in
theorem gX3_explore_X4_outcomeAt : GoodIn wsX3_explore (wsV RX3 69 RX4 yX4_outcomeAt wsX4_outcomeAt) := goodIn_app (goodIn_of _ (by decide +kernel)) ggX3_explore_X4_outcomeAt
set_option maxRecDepth 20000 in
theorem ggX3_explore_X3_follow : GoodIn wsX3_explore wsX3_follow := goodIn_r _ [39, 15, 16, 40, 41, 19, 42, 43, 44, 45, 46, 47, 48, 49, 22, 23, 24, 50, 51, 52, 53, 54, 55, 10, 11, 12, 13, 14, 1, 4, 17, 18, 20, 21, 56, 57, 58, 59, 60, 61, 62, 63, 64, 65, 66, 67] (by decide +kernel) (by decide +kernel)
set_option maxRecDepth 20000 in
theorem gX3_explore_X3_follow : GoodIn wsX3_explore (wsV RX3 72 RX3 yX3_follow wsX3_follow) := goodIn_app (goodIn_of _ (by decide +kernel)) ggX3_explore_X3_follow
theorem dX3_explore_0 : decode cX3_explore 0 = .ok (.aload_n 0, 1) := by decide +kernel
theorem dX3_explore_1 : decode cX3_explore 1 = .ok (.getfield 11, 3) := by decide +kernel
theorem dX3_explore_4 : decode cX3_explore 4 = .ok (.iconst (-1), 1) := by decide +kernel
theorem dX3_explore_5 : decode cX3_explore 5 = .ok (.invokestatic 45, 3) := by decide +kernel
theorem dX3_explore_8 : decode cX3_explore 8 = .ok (.aload_n 0, 1) := by decide +kernel
theorem dX3_explore_9 : decode cX3_explore 9 = .ok (.aload_n 1, 1) := by decide +kernel
theorem dX3_explore_10 : decode cX3_explore 10 = .ok (.getfield 51, 3) := by decide +kernel
theorem dX3_explore_13 : decode cX3_explore 13 = .ok (.putfield 57, 3) := by decide +kernel
theorem dX3_explore_16 : decode cX3_explore 16 = .ok (.aload_n 0, 1) := by decide +kernel
theorem dX3_explore_17 : decode cX3_explore 17 = .ok (.iconst 0, 1) := by decide +kernel
theorem dX3_explore_18 : decode cX3_explore 18 = .ok (.putfield 60, 3) := by decide +kernel
theorem dX3_explore_21 : decode cX3_explore 21 = .ok (.aload_n 0, 1) := by decide +kernel
theorem dX3_explore_22 : decode cX3_explore 22 = .ok (.iload_n 2, 1) := by decide +kernel
theorem dX3_explore_23 : decode cX3_explore 23 = .ok (.iconst 0, 1) := by decide +kernel
theorem dX3_explore_24 : decode cX3_explore 24 = .ok (.invokevirtual 61, 3) := by decide +kernel
theorem dX3_explore_27 : decode cX3_explore 27 = .ok (.pop, 1) := by decide +kernel
theorem dX3_explore_28 : decode cX3_explore 28 = .ok (.iconst 0, 1) := by decide +kernel
theorem dX3_explore_29 : decode cX3_explore 29 = .ok (.istore_n 3, 1) := by decide +kernel
theorem dX3_explore_30 : decode cX3_explore 30 = .ok (.iload_n 3, 1) := by decide +kernel
theorem dX3_explore_31 : decode cX3_explore 31 = .ok (.aload_n 0, 1) := by decide +kernel
theorem dX3_explore_32 : decode cX3_explore 32 = .ok (.getfield 60, 3) := by decide +kernel
theorem dX3_explore_35 : decode cX3_explore 35 = .ok (.if_icmp .ge 63, 3) := by decide +kernel
theorem dX3_explore_38 : decode cX3_explore 38 = .ok (.iload_n 3, 1) := by decide +kernel
theorem dX3_explore_39 : decode cX3_explore 39 = .ok (.sipush 462, 3) := by decide +kernel
theorem dX3_explore_42 : decode cX3_explore 42 = .ok (.if_icmp .ge 56, 3) := by decide +kernel
theorem dX3_explore_45 : decode cX3_explore 45 = .ok (.iconst 0, 1) := by decide +kernel
theorem dX3_explore_46 : decode cX3_explore 46 = .ok (.istore 4, 2) := by decide +kernel
theorem dX3_explore_48 : decode cX3_explore 48 = .ok (.iload 4, 2) := by decide +kernel
theorem dX3_explore_50 : decode cX3_explore 50 = .ok (.aload_n 0, 1) := by decide +kernel
theorem dX3_explore_51 : decode cX3_explore 51 = .ok (.getfield 57, 3) := by decide +kernel
theorem dX3_explore_54 : decode cX3_explore 54 = .ok (.if_icmp .ge 38, 3) := by decide +kernel
theorem dX3_explore_57 : decode cX3_explore 57 = .ok (.aload_n 0, 1) := by decide +kernel
theorem dX3_explore_58 : decode cX3_explore 58 = .ok (.getfield 23, 3) := by decide +kernel
theorem dX3_explore_61 : decode cX3_explore 61 = .ok (.iload_n 3, 1) := by decide +kernel
theorem dX3_explore_62 : decode cX3_explore 62 = .ok (.bipush 12, 2) := by decide +kernel
theorem dX3_explore_64 : decode cX3_explore 64 = .ok (.imul, 1) := by decide +kernel
theorem dX3_explore_65 : decode cX3_explore 65 = .ok (.iload 4, 2) := by decide +kernel
theorem dX3_explore_67 : decode cX3_explore 67 = .ok (.iadd, 1) := by decide +kernel
theorem dX3_explore_68 : decode cX3_explore 68 = .ok (.aload_n 0, 1) := by decide +kernel
theorem dX3_explore_69 : decode cX3_explore 69 = .ok (.iload_n 3, 1) := by decide +kernel
theorem dX3_explore_70 : decode cX3_explore 70 = .ok (.aload_n 1, 1) := by decide +kernel
theorem dX3_explore_71 : decode cX3_explore 71 = .ok (.iload 4, 2) := by decide +kernel
theorem dX3_explore_73 : decode cX3_explore 73 = .ok (.invokevirtual 65, 3) := by decide +kernel
theorem dX3_explore_76 : decode cX3_explore 76 = .ok (.aload_n 1, 1) := by decide +kernel
theorem dX3_explore_77 : decode cX3_explore 77 = .ok (.iload 4, 2) := by decide +kernel
theorem dX3_explore_79 : decode cX3_explore 79 = .ok (.invokevirtual 69, 3) := by decide +kernel
theorem dX3_explore_82 : decode cX3_explore 82 = .ok (.invokevirtual 72, 3) := by decide +kernel
theorem dX3_explore_85 : decode cX3_explore 85 = .ok (.iastore, 1) := by decide +kernel
theorem dX3_explore_86 : decode cX3_explore 86 = .ok (.iinc 4 1, 3) := by decide +kernel
theorem dX3_explore_89 : decode cX3_explore 89 = .ok (.goto (-41), 3) := by decide +kernel
theorem dX3_explore_92 : decode cX3_explore 92 = .ok (.iinc 3 1, 3) := by decide +kernel
theorem dX3_explore_95 : decode cX3_explore 95 = .ok (.goto (-65), 3) := by decide +kernel
theorem dX3_explore_98 : decode cX3_explore 98 = .ok (.return_, 1) := by decide +kernel
set_option maxRecDepth 20000 in
theorem ggX3_follow_X1_meetingsOf : GoodIn wsX3_follow wsX1_meetingsOf := goodIn_r _ [6, 7, 8, 9, 10, 11, 12, 13, 14, 15, 5, 16] (by decide +kernel) (by decide +kernel)
set_option maxRecDepth 20000 in
theorem gX3_follow_X1_meetingsOf : GoodIn wsX3_follow (va_wsS RX3 76 yX1_meetingsOf wsX1_meetingsOf) := goodIn_app (goodIn_of _ (by decide +kernel)) ggX3_follow_X1_meetingsOf
set_option maxRecDepth 20000 in
theorem ggX3_follow_X1_behind : GoodIn wsX3_follow wsX1_behind := goodIn_r _ [19, 7, 8, 9, 10, 20, 21, 5, 22, 11, 12, 13] (by decide +kernel) (by decide +kernel)
set_option maxRecDepth 20000 in
theorem gX3_follow_X1_behind : GoodIn wsX3_follow (va_wsS RX3 79 yX1_behind wsX1_behind) := goodIn_app (goodIn_of _ (by decide +kernel)) ggX3_follow_X1_behind
set_option maxRecDepth 20000 in
theorem ggX3_follow_X3_place : GoodIn wsX3_follow wsX3_place := goodIn_r _ [27, 28, 29, 1, 2, 30, 31, 5, 32, 33, 14, 15, 16, 34, 35, 36, 37, 38, 39, 40, 41, 42, 43, 44, 45] (by decide +kernel) (by decide +kernel)
set_option maxRecDepth 20000 in
theorem gX3_follow_X3_place : GoodIn wsX3_follow (wsV RX3 61 RX3 yX3_place wsX3_place) := goodIn_app (goodIn_of _ (by decide +kernel)) ggX3_follow_X3_place
theorem dX3_follow_0 : decode cX3_follow 0 = .ok (.aload_n 0, 1) := by decide +kernel
theorem dX3_follow_1 : decode cX3_follow 1 = .ok (.getfield 17, 3) := by decide +kernel
theorem dX3_follow_4 : decode cX3_follow 4 = .ok (.iload_n 1, 1) := by decide +kernel
theorem dX3_follow_5 : decode cX3_follow 5 = .ok (.iaload, 1) := by decide +kernel
theorem dX3_follow_6 : decode cX3_follow 6 = .ok (.istore 4, 2) := by decide +kernel
theorem dX3_follow_8 : decode cX3_follow 8 = .ok (.iload_n 2, 1) := by decide +kernel
theorem dX3_follow_9 : decode cX3_follow 9 = .ok (.iload_n 3, 1) := by decide +kernel
theorem dX3_follow_10 : decode cX3_follow 10 = .ok (.if_icmp .eq 12, 3) := by decide +kernel
theorem dX3_follow_13 : decode cX3_follow 13 = .ok (.iload 4, 2) := by decide +kernel
theorem dX3_follow_15 : decode cX3_follow 15 = .ok (.iload_n 2, 1) := by decide +kernel
theorem dX3_follow_16 : decode cX3_follow 16 = .ok (.invokestatic 76, 3) := by decide +kernel
theorem dX3_follow_19 : decode cX3_follow 19 = .ok (.ifCond .ne 5, 3) := by decide +kernel
theorem dX3_follow_22 : decode cX3_follow 22 = .ok (.iconst (-1), 1) := by decide +kernel
theorem dX3_follow_23 : decode cX3_follow 23 = .ok (.ireturn, 1) := by decide +kernel
theorem dX3_follow_24 : decode cX3_follow 24 = .ok (.aload_n 0, 1) := by decide +kernel
theorem dX3_follow_25 : decode cX3_follow 25 = .ok (.iload 4, 2) := by decide +kernel
theorem dX3_follow_27 : decode cX3_follow 27 = .ok (.iload_n 2, 1) := by decide +kernel
theorem dX3_follow_28 : decode cX3_follow 28 = .ok (.iload_n 3, 1) := by decide +kernel
theorem dX3_follow_29 : decode cX3_follow 29 = .ok (.invokestatic 79, 3) := by decide +kernel
theorem dX3_follow_32 : decode cX3_follow 32 = .ok (.aload_n 0, 1) := by decide +kernel
theorem dX3_follow_33 : decode cX3_follow 33 = .ok (.getfield 20, 3) := by decide +kernel
theorem dX3_follow_36 : decode cX3_follow 36 = .ok (.iload_n 1, 1) := by decide +kernel
theorem dX3_follow_37 : decode cX3_follow 37 = .ok (.iaload, 1) := by decide +kernel
theorem dX3_follow_38 : decode cX3_follow 38 = .ok (.iconst 1, 1) := by decide +kernel
theorem dX3_follow_39 : decode cX3_follow 39 = .ok (.iadd, 1) := by decide +kernel
theorem dX3_follow_40 : decode cX3_follow 40 = .ok (.invokevirtual 61, 3) := by decide +kernel
theorem dX3_follow_43 : decode cX3_follow 43 = .ok (.ireturn, 1) := by decide +kernel
set_option maxRecDepth 20000 in
theorem ggX3_place_X1_rank : GoodIn wsX3_place wsX1_rank := goodIn_r _ [8, 9, 10, 11, 7, 12] (by decide +kernel) (by decide +kernel)
set_option maxRecDepth 20000 in
theorem gX3_place_X1_rank : GoodIn wsX3_place (va_wsS RX3 82 yX1_rank wsX1_rank) := goodIn_app (goodIn_of _ (by decide +kernel)) ggX3_place_X1_rank
theorem dX3_place_0 : decode cX3_place 0 = .ok (.iload_n 1, 1) := by decide +kernel
theorem dX3_place_1 : decode cX3_place 1 = .ok (.invokestatic 82, 3) := by decide +kernel
theorem dX3_place_4 : decode cX3_place 4 = .ok (.istore_n 3, 1) := by decide +kernel
theorem dX3_place_5 : decode cX3_place 5 = .ok (.iload_n 3, 1) := by decide +kernel
theorem dX3_place_6 : decode cX3_place 6 = .ok (.ifCond .lt 10, 3) := by decide +kernel
theorem dX3_place_9 : decode cX3_place 9 = .ok (.iload_n 3, 1) := by decide +kernel
theorem dX3_place_10 : decode cX3_place 10 = .ok (.sipush 462, 3) := by decide +kernel
theorem dX3_place_13 : decode cX3_place 13 = .ok (.if_icmp .lt 5, 3) := by decide +kernel
theorem dX3_place_16 : decode cX3_place 16 = .ok (.iconst (-1), 1) := by decide +kernel
theorem dX3_place_17 : decode cX3_place 17 = .ok (.ireturn, 1) := by decide +kernel
theorem dX3_place_18 : decode cX3_place 18 = .ok (.aload_n 0, 1) := by decide +kernel
theorem dX3_place_19 : decode cX3_place 19 = .ok (.getfield 11, 3) := by decide +kernel
theorem dX3_place_22 : decode cX3_place 22 = .ok (.iload_n 3, 1) := by decide +kernel
theorem dX3_place_23 : decode cX3_place 23 = .ok (.iaload, 1) := by decide +kernel
theorem dX3_place_24 : decode cX3_place 24 = .ok (.ifCond .ge 53, 3) := by decide +kernel
theorem dX3_place_27 : decode cX3_place 27 = .ok (.aload_n 0, 1) := by decide +kernel
theorem dX3_place_28 : decode cX3_place 28 = .ok (.getfield 60, 3) := by decide +kernel
theorem dX3_place_31 : decode cX3_place 31 = .ok (.sipush 462, 3) := by decide +kernel
theorem dX3_place_34 : decode cX3_place 34 = .ok (.if_icmp .ge 43, 3) := by decide +kernel
theorem dX3_place_37 : decode cX3_place 37 = .ok (.aload_n 0, 1) := by decide +kernel
theorem dX3_place_38 : decode cX3_place 38 = .ok (.getfield 11, 3) := by decide +kernel
theorem dX3_place_41 : decode cX3_place 41 = .ok (.iload_n 3, 1) := by decide +kernel
theorem dX3_place_42 : decode cX3_place 42 = .ok (.aload_n 0, 1) := by decide +kernel
theorem dX3_place_43 : decode cX3_place 43 = .ok (.getfield 60, 3) := by decide +kernel
theorem dX3_place_46 : decode cX3_place 46 = .ok (.iastore, 1) := by decide +kernel
theorem dX3_place_47 : decode cX3_place 47 = .ok (.aload_n 0, 1) := by decide +kernel
theorem dX3_place_48 : decode cX3_place 48 = .ok (.getfield 17, 3) := by decide +kernel
theorem dX3_place_51 : decode cX3_place 51 = .ok (.aload_n 0, 1) := by decide +kernel
theorem dX3_place_52 : decode cX3_place 52 = .ok (.getfield 60, 3) := by decide +kernel
theorem dX3_place_55 : decode cX3_place 55 = .ok (.iload_n 1, 1) := by decide +kernel
theorem dX3_place_56 : decode cX3_place 56 = .ok (.iastore, 1) := by decide +kernel
theorem dX3_place_57 : decode cX3_place 57 = .ok (.aload_n 0, 1) := by decide +kernel
theorem dX3_place_58 : decode cX3_place 58 = .ok (.getfield 20, 3) := by decide +kernel
theorem dX3_place_61 : decode cX3_place 61 = .ok (.aload_n 0, 1) := by decide +kernel
theorem dX3_place_62 : decode cX3_place 62 = .ok (.getfield 60, 3) := by decide +kernel
theorem dX3_place_65 : decode cX3_place 65 = .ok (.iload_n 2, 1) := by decide +kernel
theorem dX3_place_66 : decode cX3_place 66 = .ok (.iastore, 1) := by decide +kernel
theorem dX3_place_67 : decode cX3_place 67 = .ok (.aload_n 0, 1) := by decide +kernel
theorem dX3_place_68 : decode cX3_place 68 = .ok (.dup, 1) := by decide +kernel
theorem dX3_place_69 : decode cX3_place 69 = .ok (.getfield 60, 3) := by decide +kernel
theorem dX3_place_72 : decode cX3_place 72 = .ok (.iconst 1, 1) := by decide +kernel
theorem dX3_place_73 : decode cX3_place 73 = .ok (.iadd, 1) := by decide +kernel
theorem dX3_place_74 : decode cX3_place 74 = .ok (.putfield 60, 3) := by decide +kernel
theorem dX3_place_77 : decode cX3_place 77 = .ok (.aload_n 0, 1) := by decide +kernel
theorem dX3_place_78 : decode cX3_place 78 = .ok (.getfield 11, 3) := by decide +kernel
theorem dX3_place_81 : decode cX3_place 81 = .ok (.iload_n 3, 1) := by decide +kernel
theorem dX3_place_82 : decode cX3_place 82 = .ok (.iaload, 1) := by decide +kernel
theorem dX3_place_83 : decode cX3_place 83 = .ok (.ireturn, 1) := by decide +kernel
theorem dX3_configurationAt_0 : decode cX3_configurationAt 0 = .ok (.aload_n 0, 1) := by decide +kernel
theorem dX3_configurationAt_1 : decode cX3_configurationAt 1 = .ok (.getfield 17, 3) := by decide +kernel
theorem dX3_configurationAt_4 : decode cX3_configurationAt 4 = .ok (.iload_n 1, 1) := by decide +kernel
theorem dX3_configurationAt_5 : decode cX3_configurationAt 5 = .ok (.iaload, 1) := by decide +kernel
theorem dX3_configurationAt_6 : decode cX3_configurationAt 6 = .ok (.ireturn, 1) := by decide +kernel
theorem dX3_leadAt_0 : decode cX3_leadAt 0 = .ok (.aload_n 0, 1) := by decide +kernel
theorem dX3_leadAt_1 : decode cX3_leadAt 1 = .ok (.getfield 23, 3) := by decide +kernel
theorem dX3_leadAt_4 : decode cX3_leadAt 4 = .ok (.iload_n 1, 1) := by decide +kernel
theorem dX3_leadAt_5 : decode cX3_leadAt 5 = .ok (.bipush 12, 2) := by decide +kernel
theorem dX3_leadAt_7 : decode cX3_leadAt 7 = .ok (.imul, 1) := by decide +kernel
theorem dX3_leadAt_8 : decode cX3_leadAt 8 = .ok (.iload_n 2, 1) := by decide +kernel
theorem dX3_leadAt_9 : decode cX3_leadAt 9 = .ok (.iadd, 1) := by decide +kernel
theorem dX3_leadAt_10 : decode cX3_leadAt 10 = .ok (.iaload, 1) := by decide +kernel
theorem dX3_leadAt_11 : decode cX3_leadAt 11 = .ok (.ireturn, 1) := by decide +kernel
theorem dX3_answerAt_0 : decode cX3_answerAt 0 = .ok (.aload_n 0, 1) := by decide +kernel
theorem dX3_answerAt_1 : decode cX3_answerAt 1 = .ok (.getfield 29, 3) := by decide +kernel
theorem dX3_answerAt_4 : decode cX3_answerAt 4 = .ok (.iload_n 1, 1) := by decide +kernel
theorem dX3_answerAt_5 : decode cX3_answerAt 5 = .ok (.iaload, 1) := by decide +kernel
theorem dX3_answerAt_6 : decode cX3_answerAt 6 = .ok (.ireturn, 1) := by decide +kernel
set_option maxRecDepth 20000 in
theorem ggX3_judge_X1_agreement : GoodIn wsX3_judge wsX1_agreement := goodIn_r _ [8, 9, 10, 7, 11] (by decide +kernel) (by decide +kernel)
set_option maxRecDepth 20000 in
theorem gX3_judge_X1_agreement : GoodIn wsX3_judge (va_wsS RX3 85 yX1_agreement wsX1_agreement) := goodIn_app (goodIn_of _ (by decide +kernel)) ggX3_judge_X1_agreement
set_option maxRecDepth 20000 in
theorem ggX3_judge_X3_takeAnswersAway : GoodIn wsX3_judge wsX3_takeAnswersAway := goodIn_r _ [16, 1, 4, 17, 18, 19, 15, 20, 21, 22, 23, 24, 25, 26, 27, 28, 29, 30, 31, 32, 33, 34, 35, 36, 37, 38] (by decide +kernel) (by decide +kernel)
set_option maxRecDepth 20000 in
theorem gX3_judge_X3_takeAnswersAway : GoodIn wsX3_judge (wsV RX3 89 RX3 yX3_takeAnswersAway wsX3_takeAnswersAway) := goodIn_app (goodIn_of _ (by decide +kernel)) ggX3_judge_X3_takeAnswersAway
theorem dX3_judge_0 : decode cX3_judge 0 = .ok (.iconst 0, 1) := by decide +kernel
theorem dX3_judge_1 : decode cX3_judge 1 = .ok (.istore_n 2, 1) := by decide +kernel
theorem dX3_judge_2 : decode cX3_judge 2 = .ok (.iload_n 2, 1) := by decide +kernel
theorem dX3_judge_3 : decode cX3_judge 3 = .ok (.aload_n 0, 1) := by decide +kernel
theorem dX3_judge_4 : decode cX3_judge 4 = .ok (.getfield 60, 3) := by decide +kernel
theorem dX3_judge_7 : decode cX3_judge 7 = .ok (.if_icmp .ge 37, 3) := by decide +kernel
theorem dX3_judge_10 : decode cX3_judge 10 = .ok (.aload_n 0, 1) := by decide +kernel
theorem dX3_judge_11 : decode cX3_judge 11 = .ok (.getfield 26, 3) := by decide +kernel
theorem dX3_judge_14 : decode cX3_judge 14 = .ok (.iload_n 2, 1) := by decide +kernel
theorem dX3_judge_15 : decode cX3_judge 15 = .ok (.aload_n 0, 1) := by decide +kernel
theorem dX3_judge_16 : decode cX3_judge 16 = .ok (.getfield 17, 3) := by decide +kernel
theorem dX3_judge_19 : decode cX3_judge 19 = .ok (.iload_n 2, 1) := by decide +kernel
theorem dX3_judge_20 : decode cX3_judge 20 = .ok (.iaload, 1) := by decide +kernel
theorem dX3_judge_21 : decode cX3_judge 21 = .ok (.aload_n 1, 1) := by decide +kernel
theorem dX3_judge_22 : decode cX3_judge 22 = .ok (.invokestatic 85, 3) := by decide +kernel
theorem dX3_judge_25 : decode cX3_judge 25 = .ok (.iastore, 1) := by decide +kernel
theorem dX3_judge_26 : decode cX3_judge 26 = .ok (.aload_n 0, 1) := by decide +kernel
theorem dX3_judge_27 : decode cX3_judge 27 = .ok (.getfield 29, 3) := by decide +kernel
theorem dX3_judge_30 : decode cX3_judge 30 = .ok (.iload_n 2, 1) := by decide +kernel
theorem dX3_judge_31 : decode cX3_judge 31 = .ok (.aload_n 0, 1) := by decide +kernel
theorem dX3_judge_32 : decode cX3_judge 32 = .ok (.getfield 26, 3) := by decide +kernel
theorem dX3_judge_35 : decode cX3_judge 35 = .ok (.iload_n 2, 1) := by decide +kernel
theorem dX3_judge_36 : decode cX3_judge 36 = .ok (.iaload, 1) := by decide +kernel
theorem dX3_judge_37 : decode cX3_judge 37 = .ok (.iastore, 1) := by decide +kernel
theorem dX3_judge_38 : decode cX3_judge 38 = .ok (.iinc 2 1, 3) := by decide +kernel
theorem dX3_judge_41 : decode cX3_judge 41 = .ok (.goto (-39), 3) := by decide +kernel
theorem dX3_judge_44 : decode cX3_judge 44 = .ok (.iconst 1, 1) := by decide +kernel
theorem dX3_judge_45 : decode cX3_judge 45 = .ok (.istore_n 2, 1) := by decide +kernel
theorem dX3_judge_46 : decode cX3_judge 46 = .ok (.iconst 0, 1) := by decide +kernel
theorem dX3_judge_47 : decode cX3_judge 47 = .ok (.istore_n 3, 1) := by decide +kernel
theorem dX3_judge_48 : decode cX3_judge 48 = .ok (.iload_n 2, 1) := by decide +kernel
theorem dX3_judge_49 : decode cX3_judge 49 = .ok (.ifCond .eq 21, 3) := by decide +kernel
theorem dX3_judge_52 : decode cX3_judge 52 = .ok (.iload_n 3, 1) := by decide +kernel
theorem dX3_judge_53 : decode cX3_judge 53 = .ok (.sipush 462, 3) := by decide +kernel
theorem dX3_judge_56 : decode cX3_judge 56 = .ok (.if_icmp .ge 14, 3) := by decide +kernel
theorem dX3_judge_59 : decode cX3_judge 59 = .ok (.aload_n 0, 1) := by decide +kernel
theorem dX3_judge_60 : decode cX3_judge 60 = .ok (.invokevirtual 89, 3) := by decide +kernel
theorem dX3_judge_63 : decode cX3_judge 63 = .ok (.istore_n 2, 1) := by decide +kernel
theorem dX3_judge_64 : decode cX3_judge 64 = .ok (.iinc 3 1, 3) := by decide +kernel
theorem dX3_judge_67 : decode cX3_judge 67 = .ok (.goto (-19), 3) := by decide +kernel
theorem dX3_judge_70 : decode cX3_judge 70 = .ok (.return_, 1) := by decide +kernel
set_option maxRecDepth 20000 in
theorem ggX3_takeAnswersAway_X3_leadsToOtherAnswer : GoodIn wsX3_takeAnswersAway wsX3_leadsToOtherAnswer := goodIn_r _ [7, 8, 2, 9, 10, 11, 6, 12, 13, 14, 15, 16, 17, 18, 19, 20, 21, 22, 23, 24, 25] (by decide +kernel) (by decide +kernel)
set_option maxRecDepth 20000 in
theorem gX3_takeAnswersAway_X3_leadsToOtherAnswer : GoodIn wsX3_takeAnswersAway (wsV RX3 93 RX3 yX3_leadsToOtherAnswer wsX3_leadsToOtherAnswer) := goodIn_app (goodIn_of _ (by decide +kernel)) ggX3_takeAnswersAway_X3_leadsToOtherAnswer
theorem dX3_takeAnswersAway_0 : decode cX3_takeAnswersAway 0 = .ok (.iconst 0, 1) := by decide +kernel
theorem dX3_takeAnswersAway_1 : decode cX3_takeAnswersAway 1 = .ok (.istore_n 1, 1) := by decide +kernel
theorem dX3_takeAnswersAway_2 : decode cX3_takeAnswersAway 2 = .ok (.aload_n 0, 1) := by decide +kernel
theorem dX3_takeAnswersAway_3 : decode cX3_takeAnswersAway 3 = .ok (.getfield 60, 3) := by decide +kernel
theorem dX3_takeAnswersAway_6 : decode cX3_takeAnswersAway 6 = .ok (.iconst 1, 1) := by decide +kernel
theorem dX3_takeAnswersAway_7 : decode cX3_takeAnswersAway 7 = .ok (.isub, 1) := by decide +kernel
theorem dX3_takeAnswersAway_8 : decode cX3_takeAnswersAway 8 = .ok (.istore_n 2, 1) := by decide +kernel
theorem dX3_takeAnswersAway_9 : decode cX3_takeAnswersAway 9 = .ok (.iload_n 2, 1) := by decide +kernel
theorem dX3_takeAnswersAway_10 : decode cX3_takeAnswersAway 10 = .ok (.ifCond .lt 38, 3) := by decide +kernel
theorem dX3_takeAnswersAway_13 : decode cX3_takeAnswersAway 13 = .ok (.aload_n 0, 1) := by decide +kernel
theorem dX3_takeAnswersAway_14 : decode cX3_takeAnswersAway 14 = .ok (.getfield 29, 3) := by decide +kernel
theorem dX3_takeAnswersAway_17 : decode cX3_takeAnswersAway 17 = .ok (.iload_n 2, 1) := by decide +kernel
theorem dX3_takeAnswersAway_18 : decode cX3_takeAnswersAway 18 = .ok (.iaload, 1) := by decide +kernel
theorem dX3_takeAnswersAway_19 : decode cX3_takeAnswersAway 19 = .ok (.bipush (-9), 2) := by decide +kernel
theorem dX3_takeAnswersAway_21 : decode cX3_takeAnswersAway 21 = .ok (.if_icmp .eq 21, 3) := by decide +kernel
theorem dX3_takeAnswersAway_24 : decode cX3_takeAnswersAway 24 = .ok (.aload_n 0, 1) := by decide +kernel
theorem dX3_takeAnswersAway_25 : decode cX3_takeAnswersAway 25 = .ok (.iload_n 2, 1) := by decide +kernel
theorem dX3_takeAnswersAway_26 : decode cX3_takeAnswersAway 26 = .ok (.invokevirtual 93, 3) := by decide +kernel
theorem dX3_takeAnswersAway_29 : decode cX3_takeAnswersAway 29 = .ok (.ifCond .eq 13, 3) := by decide +kernel
theorem dX3_takeAnswersAway_32 : decode cX3_takeAnswersAway 32 = .ok (.aload_n 0, 1) := by decide +kernel
theorem dX3_takeAnswersAway_33 : decode cX3_takeAnswersAway 33 = .ok (.getfield 29, 3) := by decide +kernel
theorem dX3_takeAnswersAway_36 : decode cX3_takeAnswersAway 36 = .ok (.iload_n 2, 1) := by decide +kernel
theorem dX3_takeAnswersAway_37 : decode cX3_takeAnswersAway 37 = .ok (.bipush (-9), 2) := by decide +kernel
theorem dX3_takeAnswersAway_39 : decode cX3_takeAnswersAway 39 = .ok (.iastore, 1) := by decide +kernel
theorem dX3_takeAnswersAway_40 : decode cX3_takeAnswersAway 40 = .ok (.iconst 1, 1) := by decide +kernel
theorem dX3_takeAnswersAway_41 : decode cX3_takeAnswersAway 41 = .ok (.istore_n 1, 1) := by decide +kernel
theorem dX3_takeAnswersAway_42 : decode cX3_takeAnswersAway 42 = .ok (.iinc 2 (-1), 3) := by decide +kernel
theorem dX3_takeAnswersAway_45 : decode cX3_takeAnswersAway 45 = .ok (.goto (-36), 3) := by decide +kernel
theorem dX3_takeAnswersAway_48 : decode cX3_takeAnswersAway 48 = .ok (.iload_n 1, 1) := by decide +kernel
theorem dX3_takeAnswersAway_49 : decode cX3_takeAnswersAway 49 = .ok (.ireturn, 1) := by decide +kernel
set_option maxRecDepth 20000 in
theorem ggX3_leadsToOtherAnswer_X3_leadAt : GoodIn wsX3_leadsToOtherAnswer wsX3_leadAt := goodIn_r _ [7, 8, 9, 10, 11, 12, 13, 14, 15, 16, 17, 18, 19, 20] (by decide +kernel) (by decide +kernel)
set_option maxRecDepth 20000 in
theorem gX3_leadsToOtherAnswer_X3_leadAt : GoodIn wsX3_leadsToOtherAnswer (wsV RX3 97 RX3 yX3_leadAt wsX3_leadAt) := goodIn_app (goodIn_of _ (by decide +kernel)) ggX3_leadsToOtherAnswer_X3_leadAt
theorem dX3_leadsToOtherAnswer_0 : decode cX3_leadsToOtherAnswer 0 = .ok (.iconst 0, 1) := by decide +kernel
theorem dX3_leadsToOtherAnswer_1 : decode cX3_leadsToOtherAnswer 1 = .ok (.istore_n 2, 1) := by decide +kernel
theorem dX3_leadsToOtherAnswer_2 : decode cX3_leadsToOtherAnswer 2 = .ok (.iload_n 2, 1) := by decide +kernel
theorem dX3_leadsToOtherAnswer_3 : decode cX3_leadsToOtherAnswer 3 = .ok (.aload_n 0, 1) := by decide +kernel
theorem dX3_leadsToOtherAnswer_4 : decode cX3_leadsToOtherAnswer 4 = .ok (.getfield 57, 3) := by decide +kernel
theorem dX3_leadsToOtherAnswer_7 : decode cX3_leadsToOtherAnswer 7 = .ok (.if_icmp .ge 37, 3) := by decide +kernel
theorem dX3_leadsToOtherAnswer_10 : decode cX3_leadsToOtherAnswer 10 = .ok (.aload_n 0, 1) := by decide +kernel
theorem dX3_leadsToOtherAnswer_11 : decode cX3_leadsToOtherAnswer 11 = .ok (.iload_n 1, 1) := by decide +kernel
theorem dX3_leadsToOtherAnswer_12 : decode cX3_leadsToOtherAnswer 12 = .ok (.iload_n 2, 1) := by decide +kernel
theorem dX3_leadsToOtherAnswer_13 : decode cX3_leadsToOtherAnswer 13 = .ok (.invokevirtual 97, 3) := by decide +kernel
theorem dX3_leadsToOtherAnswer_16 : decode cX3_leadsToOtherAnswer 16 = .ok (.istore_n 3, 1) := by decide +kernel
theorem dX3_leadsToOtherAnswer_17 : decode cX3_leadsToOtherAnswer 17 = .ok (.iload_n 3, 1) := by decide +kernel
theorem dX3_leadsToOtherAnswer_18 : decode cX3_leadsToOtherAnswer 18 = .ok (.ifCond .lt 20, 3) := by decide +kernel
theorem dX3_leadsToOtherAnswer_21 : decode cX3_leadsToOtherAnswer 21 = .ok (.aload_n 0, 1) := by decide +kernel
theorem dX3_leadsToOtherAnswer_22 : decode cX3_leadsToOtherAnswer 22 = .ok (.getfield 29, 3) := by decide +kernel
theorem dX3_leadsToOtherAnswer_25 : decode cX3_leadsToOtherAnswer 25 = .ok (.iload_n 3, 1) := by decide +kernel
theorem dX3_leadsToOtherAnswer_26 : decode cX3_leadsToOtherAnswer 26 = .ok (.iaload, 1) := by decide +kernel
theorem dX3_leadsToOtherAnswer_27 : decode cX3_leadsToOtherAnswer 27 = .ok (.aload_n 0, 1) := by decide +kernel
theorem dX3_leadsToOtherAnswer_28 : decode cX3_leadsToOtherAnswer 28 = .ok (.getfield 29, 3) := by decide +kernel
theorem dX3_leadsToOtherAnswer_31 : decode cX3_leadsToOtherAnswer 31 = .ok (.iload_n 1, 1) := by decide +kernel
theorem dX3_leadsToOtherAnswer_32 : decode cX3_leadsToOtherAnswer 32 = .ok (.iaload, 1) := by decide +kernel
theorem dX3_leadsToOtherAnswer_33 : decode cX3_leadsToOtherAnswer 33 = .ok (.if_icmp .eq 5, 3) := by decide +kernel
theorem dX3_leadsToOtherAnswer_36 : decode cX3_leadsToOtherAnswer 36 = .ok (.iconst 1, 1) := by decide +kernel
theorem dX3_leadsToOtherAnswer_37 : decode cX3_leadsToOtherAnswer 37 = .ok (.ireturn, 1) := by decide +kernel
theorem dX3_leadsToOtherAnswer_38 : decode cX3_leadsToOtherAnswer 38 = .ok (.iinc 2 1, 3) := by decide +kernel
theorem dX3_leadsToOtherAnswer_41 : decode cX3_leadsToOtherAnswer 41 = .ok (.goto (-39), 3) := by decide +kernel
theorem dX3_leadsToOtherAnswer_44 : decode cX3_leadsToOtherAnswer 44 = .ok (.iconst 0, 1) := by decide +kernel
theorem dX3_leadsToOtherAnswer_45 : decode cX3_leadsToOtherAnswer 45 = .ok (.ireturn, 1) := by decide +kernel
theorem dX3_howManyAgreed_0 : decode cX3_howManyAgreed 0 = .ok (.iconst 0, 1) := by decide +kernel
theorem dX3_howManyAgreed_1 : decode cX3_howManyAgreed 1 = .ok (.istore_n 1, 1) := by decide +kernel
theorem dX3_howManyAgreed_2 : decode cX3_howManyAgreed 2 = .ok (.iconst 0, 1) := by decide +kernel
theorem dX3_howManyAgreed_3 : decode cX3_howManyAgreed 3 = .ok (.istore_n 2, 1) := by decide +kernel
theorem dX3_howManyAgreed_4 : decode cX3_howManyAgreed 4 = .ok (.iload_n 2, 1) := by decide +kernel
theorem dX3_howManyAgreed_5 : decode cX3_howManyAgreed 5 = .ok (.aload_n 0, 1) := by decide +kernel
theorem dX3_howManyAgreed_6 : decode cX3_howManyAgreed 6 = .ok (.getfield 60, 3) := by decide +kernel
theorem dX3_howManyAgreed_9 : decode cX3_howManyAgreed 9 = .ok (.if_icmp .ge 23, 3) := by decide +kernel
theorem dX3_howManyAgreed_12 : decode cX3_howManyAgreed 12 = .ok (.aload_n 0, 1) := by decide +kernel
theorem dX3_howManyAgreed_13 : decode cX3_howManyAgreed 13 = .ok (.getfield 26, 3) := by decide +kernel
theorem dX3_howManyAgreed_16 : decode cX3_howManyAgreed 16 = .ok (.iload_n 2, 1) := by decide +kernel
theorem dX3_howManyAgreed_17 : decode cX3_howManyAgreed 17 = .ok (.iaload, 1) := by decide +kernel
theorem dX3_howManyAgreed_18 : decode cX3_howManyAgreed 18 = .ok (.bipush (-9), 2) := by decide +kernel
theorem dX3_howManyAgreed_20 : decode cX3_howManyAgreed 20 = .ok (.if_icmp .eq 6, 3) := by decide +kernel
theorem dX3_howManyAgreed_23 : decode cX3_howManyAgreed 23 = .ok (.iinc 1 1, 3) := by decide +kernel
theorem dX3_howManyAgreed_26 : decode cX3_howManyAgreed 26 = .ok (.iinc 2 1, 3) := by decide +kernel
theorem dX3_howManyAgreed_29 : decode cX3_howManyAgreed 29 = .ok (.goto (-25), 3) := by decide +kernel
theorem dX3_howManyAgreed_32 : decode cX3_howManyAgreed 32 = .ok (.iload_n 1, 1) := by decide +kernel
theorem dX3_howManyAgreed_33 : decode cX3_howManyAgreed 33 = .ok (.ireturn, 1) := by decide +kernel
theorem dX3_howManyStable_0 : decode cX3_howManyStable 0 = .ok (.iconst 0, 1) := by decide +kernel
theorem dX3_howManyStable_1 : decode cX3_howManyStable 1 = .ok (.istore_n 1, 1) := by decide +kernel
theorem dX3_howManyStable_2 : decode cX3_howManyStable 2 = .ok (.iconst 0, 1) := by decide +kernel
theorem dX3_howManyStable_3 : decode cX3_howManyStable 3 = .ok (.istore_n 2, 1) := by decide +kernel
theorem dX3_howManyStable_4 : decode cX3_howManyStable 4 = .ok (.iload_n 2, 1) := by decide +kernel
theorem dX3_howManyStable_5 : decode cX3_howManyStable 5 = .ok (.aload_n 0, 1) := by decide +kernel
theorem dX3_howManyStable_6 : decode cX3_howManyStable 6 = .ok (.getfield 60, 3) := by decide +kernel
theorem dX3_howManyStable_9 : decode cX3_howManyStable 9 = .ok (.if_icmp .ge 23, 3) := by decide +kernel
theorem dX3_howManyStable_12 : decode cX3_howManyStable 12 = .ok (.aload_n 0, 1) := by decide +kernel
theorem dX3_howManyStable_13 : decode cX3_howManyStable 13 = .ok (.getfield 29, 3) := by decide +kernel
theorem dX3_howManyStable_16 : decode cX3_howManyStable 16 = .ok (.iload_n 2, 1) := by decide +kernel
theorem dX3_howManyStable_17 : decode cX3_howManyStable 17 = .ok (.iaload, 1) := by decide +kernel
theorem dX3_howManyStable_18 : decode cX3_howManyStable 18 = .ok (.bipush (-9), 2) := by decide +kernel
theorem dX3_howManyStable_20 : decode cX3_howManyStable 20 = .ok (.if_icmp .eq 6, 3) := by decide +kernel
theorem dX3_howManyStable_23 : decode cX3_howManyStable 23 = .ok (.iinc 1 1, 3) := by decide +kernel
theorem dX3_howManyStable_26 : decode cX3_howManyStable 26 = .ok (.iinc 2 1, 3) := by decide +kernel
theorem dX3_howManyStable_29 : decode cX3_howManyStable 29 = .ok (.goto (-25), 3) := by decide +kernel
theorem dX3_howManyStable_32 : decode cX3_howManyStable 32 = .ok (.iload_n 1, 1) := by decide +kernel
theorem dX3_howManyStable_33 : decode cX3_howManyStable 33 = .ok (.ireturn, 1) := by decide +kernel
set_option maxRecDepth 20000 in
theorem ggX3_howManySilent_X3_isSilent : GoodIn wsX3_howManySilent wsX3_isSilent := goodIn_r _ [6, 7, 8, 9, 10, 5, 11, 12, 13, 14, 15, 16, 17, 18, 19, 20, 21, 22, 23, 24] (by decide +kernel) (by decide +kernel)
set_option maxRecDepth 20000 in
theorem gX3_howManySilent_X3_isSilent : GoodIn wsX3_howManySilent (wsV RX3 100 RX3 yX3_isSilent wsX3_isSilent) := goodIn_app (goodIn_of _ (by decide +kernel)) ggX3_howManySilent_X3_isSilent
theorem dX3_howManySilent_0 : decode cX3_howManySilent 0 = .ok (.iconst 0, 1) := by decide +kernel
theorem dX3_howManySilent_1 : decode cX3_howManySilent 1 = .ok (.istore_n 1, 1) := by decide +kernel
theorem dX3_howManySilent_2 : decode cX3_howManySilent 2 = .ok (.iconst 0, 1) := by decide +kernel
theorem dX3_howManySilent_3 : decode cX3_howManySilent 3 = .ok (.istore_n 2, 1) := by decide +kernel
theorem dX3_howManySilent_4 : decode cX3_howManySilent 4 = .ok (.iload_n 2, 1) := by decide +kernel
theorem dX3_howManySilent_5 : decode cX3_howManySilent 5 = .ok (.aload_n 0, 1) := by decide +kernel
theorem dX3_howManySilent_6 : decode cX3_howManySilent 6 = .ok (.getfield 60, 3) := by decide +kernel
theorem dX3_howManySilent_9 : decode cX3_howManySilent 9 = .ok (.if_icmp .ge 20, 3) := by decide +kernel
theorem dX3_howManySilent_12 : decode cX3_howManySilent 12 = .ok (.aload_n 0, 1) := by decide +kernel
theorem dX3_howManySilent_13 : decode cX3_howManySilent 13 = .ok (.iload_n 2, 1) := by decide +kernel
theorem dX3_howManySilent_14 : decode cX3_howManySilent 14 = .ok (.invokevirtual 100, 3) := by decide +kernel
theorem dX3_howManySilent_17 : decode cX3_howManySilent 17 = .ok (.ifCond .eq 6, 3) := by decide +kernel
theorem dX3_howManySilent_20 : decode cX3_howManySilent 20 = .ok (.iinc 1 1, 3) := by decide +kernel
theorem dX3_howManySilent_23 : decode cX3_howManySilent 23 = .ok (.iinc 2 1, 3) := by decide +kernel
theorem dX3_howManySilent_26 : decode cX3_howManySilent 26 = .ok (.goto (-22), 3) := by decide +kernel
theorem dX3_howManySilent_29 : decode cX3_howManySilent 29 = .ok (.iload_n 1, 1) := by decide +kernel
theorem dX3_howManySilent_30 : decode cX3_howManySilent 30 = .ok (.ireturn, 1) := by decide +kernel
set_option maxRecDepth 20000 in
theorem ggX3_isSilent_X3_leadAt : GoodIn wsX3_isSilent wsX3_leadAt := goodIn_r _ [6, 7, 8, 9, 10, 11, 12, 13, 14, 15, 16, 17, 18, 19] (by decide +kernel) (by decide +kernel)
set_option maxRecDepth 20000 in
theorem gX3_isSilent_X3_leadAt : GoodIn wsX3_isSilent (wsV RX3 97 RX3 yX3_leadAt wsX3_leadAt) := goodIn_app (goodIn_of _ (by decide +kernel)) ggX3_isSilent_X3_leadAt
theorem dX3_isSilent_0 : decode cX3_isSilent 0 = .ok (.iconst 0, 1) := by decide +kernel
theorem dX3_isSilent_1 : decode cX3_isSilent 1 = .ok (.istore_n 2, 1) := by decide +kernel
theorem dX3_isSilent_2 : decode cX3_isSilent 2 = .ok (.iload_n 2, 1) := by decide +kernel
theorem dX3_isSilent_3 : decode cX3_isSilent 3 = .ok (.aload_n 0, 1) := by decide +kernel
theorem dX3_isSilent_4 : decode cX3_isSilent 4 = .ok (.getfield 57, 3) := by decide +kernel
theorem dX3_isSilent_7 : decode cX3_isSilent 7 = .ok (.if_icmp .ge 27, 3) := by decide +kernel
theorem dX3_isSilent_10 : decode cX3_isSilent 10 = .ok (.aload_n 0, 1) := by decide +kernel
theorem dX3_isSilent_11 : decode cX3_isSilent 11 = .ok (.iload_n 1, 1) := by decide +kernel
theorem dX3_isSilent_12 : decode cX3_isSilent 12 = .ok (.iload_n 2, 1) := by decide +kernel
theorem dX3_isSilent_13 : decode cX3_isSilent 13 = .ok (.invokevirtual 97, 3) := by decide +kernel
theorem dX3_isSilent_16 : decode cX3_isSilent 16 = .ok (.istore_n 3, 1) := by decide +kernel
theorem dX3_isSilent_17 : decode cX3_isSilent 17 = .ok (.iload_n 3, 1) := by decide +kernel
theorem dX3_isSilent_18 : decode cX3_isSilent 18 = .ok (.ifCond .lt 10, 3) := by decide +kernel
theorem dX3_isSilent_21 : decode cX3_isSilent 21 = .ok (.iload_n 3, 1) := by decide +kernel
theorem dX3_isSilent_22 : decode cX3_isSilent 22 = .ok (.iload_n 1, 1) := by decide +kernel
theorem dX3_isSilent_23 : decode cX3_isSilent 23 = .ok (.if_icmp .eq 5, 3) := by decide +kernel
theorem dX3_isSilent_26 : decode cX3_isSilent 26 = .ok (.iconst 0, 1) := by decide +kernel
theorem dX3_isSilent_27 : decode cX3_isSilent 27 = .ok (.ireturn, 1) := by decide +kernel
theorem dX3_isSilent_28 : decode cX3_isSilent 28 = .ok (.iinc 2 1, 3) := by decide +kernel
theorem dX3_isSilent_31 : decode cX3_isSilent 31 = .ok (.goto (-29), 3) := by decide +kernel
theorem dX3_isSilent_34 : decode cX3_isSilent 34 = .ok (.iconst 1, 1) := by decide +kernel
theorem dX3_isSilent_35 : decode cX3_isSilent 35 = .ok (.ireturn, 1) := by decide +kernel
set_option maxRecDepth 20000 in
theorem ggX3_verdict_X3_onlyAnswer : GoodIn wsX3_verdict wsX3_onlyAnswer := goodIn_r _ [5, 6, 7, 27, 28, 29, 30, 31, 32, 33, 34, 35, 36, 37, 38] (by decide +kernel) (by decide +kernel)
set_option maxRecDepth 20000 in
theorem gX3_verdict_X3_onlyAnswer : GoodIn wsX3_verdict (wsV RX3 103 RX3 yX3_onlyAnswer wsX3_onlyAnswer) := goodIn_app (goodIn_of _ (by decide +kernel)) ggX3_verdict_X3_onlyAnswer
set_option maxRecDepth 20000 in
theorem ggX3_verdict_X3_allHope : GoodIn wsX3_verdict wsX3_allHope := goodIn_r _ [11, 6, 12, 7, 13, 14, 15, 4, 16, 17, 18, 19, 20, 21, 22, 23, 24, 25, 26, 27, 28, 29, 30, 31, 32, 33, 34, 35, 36, 37, 38] (by decide +kernel) (by decide +kernel)
set_option maxRecDepth 20000 in
theorem gX3_verdict_X3_allHope : GoodIn wsX3_verdict (wsV RX3 107 RX3 yX3_allHope wsX3_allHope) := goodIn_app (goodIn_of _ (by decide +kernel)) ggX3_verdict_X3_allHope
theorem dX3_verdict_0 : decode cX3_verdict 0 = .ok (.aload_n 0, 1) := by decide +kernel
theorem dX3_verdict_1 : decode cX3_verdict 1 = .ok (.invokevirtual 103, 3) := by decide +kernel
theorem dX3_verdict_4 : decode cX3_verdict 4 = .ok (.istore_n 1, 1) := by decide +kernel
theorem dX3_verdict_5 : decode cX3_verdict 5 = .ok (.iload_n 1, 1) := by decide +kernel
theorem dX3_verdict_6 : decode cX3_verdict 6 = .ok (.bipush (-9), 2) := by decide +kernel
theorem dX3_verdict_8 : decode cX3_verdict 8 = .ok (.if_icmp .eq 14, 3) := by decide +kernel
theorem dX3_verdict_11 : decode cX3_verdict 11 = .ok (.aload_n 0, 1) := by decide +kernel
theorem dX3_verdict_12 : decode cX3_verdict 12 = .ok (.invokevirtual 107, 3) := by decide +kernel
theorem dX3_verdict_15 : decode cX3_verdict 15 = .ok (.ifCond .eq 7, 3) := by decide +kernel
theorem dX3_verdict_18 : decode cX3_verdict 18 = .ok (.iload_n 1, 1) := by decide +kernel
theorem dX3_verdict_19 : decode cX3_verdict 19 = .ok (.goto 5, 3) := by decide +kernel
theorem dX3_verdict_22 : decode cX3_verdict 22 = .ok (.bipush (-9), 2) := by decide +kernel
theorem dX3_verdict_24 : decode cX3_verdict 24 = .ok (.ireturn, 1) := by decide +kernel
theorem dX3_onlyAnswer_0 : decode cX3_onlyAnswer 0 = .ok (.bipush (-9), 2) := by decide +kernel
theorem dX3_onlyAnswer_2 : decode cX3_onlyAnswer 2 = .ok (.istore_n 1, 1) := by decide +kernel
theorem dX3_onlyAnswer_3 : decode cX3_onlyAnswer 3 = .ok (.iconst 0, 1) := by decide +kernel
theorem dX3_onlyAnswer_4 : decode cX3_onlyAnswer 4 = .ok (.istore_n 2, 1) := by decide +kernel
theorem dX3_onlyAnswer_5 : decode cX3_onlyAnswer 5 = .ok (.iload_n 2, 1) := by decide +kernel
theorem dX3_onlyAnswer_6 : decode cX3_onlyAnswer 6 = .ok (.aload_n 0, 1) := by decide +kernel
theorem dX3_onlyAnswer_7 : decode cX3_onlyAnswer 7 = .ok (.getfield 60, 3) := by decide +kernel
theorem dX3_onlyAnswer_10 : decode cX3_onlyAnswer 10 = .ok (.if_icmp .ge 46, 3) := by decide +kernel
theorem dX3_onlyAnswer_13 : decode cX3_onlyAnswer 13 = .ok (.aload_n 0, 1) := by decide +kernel
theorem dX3_onlyAnswer_14 : decode cX3_onlyAnswer 14 = .ok (.getfield 29, 3) := by decide +kernel
theorem dX3_onlyAnswer_17 : decode cX3_onlyAnswer 17 = .ok (.iload_n 2, 1) := by decide +kernel
theorem dX3_onlyAnswer_18 : decode cX3_onlyAnswer 18 = .ok (.iaload, 1) := by decide +kernel
theorem dX3_onlyAnswer_19 : decode cX3_onlyAnswer 19 = .ok (.bipush (-9), 2) := by decide +kernel
theorem dX3_onlyAnswer_21 : decode cX3_onlyAnswer 21 = .ok (.if_icmp .eq 29, 3) := by decide +kernel
theorem dX3_onlyAnswer_24 : decode cX3_onlyAnswer 24 = .ok (.iload_n 1, 1) := by decide +kernel
theorem dX3_onlyAnswer_25 : decode cX3_onlyAnswer 25 = .ok (.bipush (-9), 2) := by decide +kernel
theorem dX3_onlyAnswer_27 : decode cX3_onlyAnswer 27 = .ok (.if_icmp .eq 16, 3) := by decide +kernel
theorem dX3_onlyAnswer_30 : decode cX3_onlyAnswer 30 = .ok (.iload_n 1, 1) := by decide +kernel
theorem dX3_onlyAnswer_31 : decode cX3_onlyAnswer 31 = .ok (.aload_n 0, 1) := by decide +kernel
theorem dX3_onlyAnswer_32 : decode cX3_onlyAnswer 32 = .ok (.getfield 29, 3) := by decide +kernel
theorem dX3_onlyAnswer_35 : decode cX3_onlyAnswer 35 = .ok (.iload_n 2, 1) := by decide +kernel
theorem dX3_onlyAnswer_36 : decode cX3_onlyAnswer 36 = .ok (.iaload, 1) := by decide +kernel
theorem dX3_onlyAnswer_37 : decode cX3_onlyAnswer 37 = .ok (.if_icmp .eq 6, 3) := by decide +kernel
theorem dX3_onlyAnswer_40 : decode cX3_onlyAnswer 40 = .ok (.bipush (-9), 2) := by decide +kernel
theorem dX3_onlyAnswer_42 : decode cX3_onlyAnswer 42 = .ok (.ireturn, 1) := by decide +kernel
theorem dX3_onlyAnswer_43 : decode cX3_onlyAnswer 43 = .ok (.aload_n 0, 1) := by decide +kernel
theorem dX3_onlyAnswer_44 : decode cX3_onlyAnswer 44 = .ok (.getfield 29, 3) := by decide +kernel
theorem dX3_onlyAnswer_47 : decode cX3_onlyAnswer 47 = .ok (.iload_n 2, 1) := by decide +kernel
theorem dX3_onlyAnswer_48 : decode cX3_onlyAnswer 48 = .ok (.iaload, 1) := by decide +kernel
theorem dX3_onlyAnswer_49 : decode cX3_onlyAnswer 49 = .ok (.istore_n 1, 1) := by decide +kernel
theorem dX3_onlyAnswer_50 : decode cX3_onlyAnswer 50 = .ok (.iinc 2 1, 3) := by decide +kernel
theorem dX3_onlyAnswer_53 : decode cX3_onlyAnswer 53 = .ok (.goto (-48), 3) := by decide +kernel
theorem dX3_onlyAnswer_56 : decode cX3_onlyAnswer 56 = .ok (.iload_n 1, 1) := by decide +kernel
theorem dX3_onlyAnswer_57 : decode cX3_onlyAnswer 57 = .ok (.ireturn, 1) := by decide +kernel
set_option maxRecDepth 20000 in
theorem ggX3_allHope_X3_spreadHope : GoodIn wsX3_allHope wsX3_spreadHope := goodIn_r _ [8, 1, 2, 9, 10, 11, 7, 12, 13, 14, 15, 16, 17, 18, 19, 20, 21, 22, 23, 24, 25, 26, 27, 28, 29, 30] (by decide +kernel) (by decide +kernel)
set_option maxRecDepth 20000 in
theorem gX3_allHope_X3_spreadHope : GoodIn wsX3_allHope (wsV RX3 110 RX3 yX3_spreadHope wsX3_spreadHope) := goodIn_app (goodIn_of _ (by decide +kernel)) ggX3_allHope_X3_spreadHope
theorem dX3_allHope_0 : decode cX3_allHope 0 = .ok (.iconst 0, 1) := by decide +kernel
theorem dX3_allHope_1 : decode cX3_allHope 1 = .ok (.istore_n 1, 1) := by decide +kernel
theorem dX3_allHope_2 : decode cX3_allHope 2 = .ok (.iload_n 1, 1) := by decide +kernel
theorem dX3_allHope_3 : decode cX3_allHope 3 = .ok (.aload_n 0, 1) := by decide +kernel
theorem dX3_allHope_4 : decode cX3_allHope 4 = .ok (.getfield 60, 3) := by decide +kernel
theorem dX3_allHope_7 : decode cX3_allHope 7 = .ok (.if_icmp .ge 31, 3) := by decide +kernel
theorem dX3_allHope_10 : decode cX3_allHope 10 = .ok (.aload_n 0, 1) := by decide +kernel
theorem dX3_allHope_11 : decode cX3_allHope 11 = .ok (.getfield 32, 3) := by decide +kernel
theorem dX3_allHope_14 : decode cX3_allHope 14 = .ok (.iload_n 1, 1) := by decide +kernel
theorem dX3_allHope_15 : decode cX3_allHope 15 = .ok (.aload_n 0, 1) := by decide +kernel
theorem dX3_allHope_16 : decode cX3_allHope 16 = .ok (.getfield 29, 3) := by decide +kernel
theorem dX3_allHope_19 : decode cX3_allHope 19 = .ok (.iload_n 1, 1) := by decide +kernel
theorem dX3_allHope_20 : decode cX3_allHope 20 = .ok (.iaload, 1) := by decide +kernel
theorem dX3_allHope_21 : decode cX3_allHope 21 = .ok (.bipush (-9), 2) := by decide +kernel
theorem dX3_allHope_23 : decode cX3_allHope 23 = .ok (.if_icmp .eq 7, 3) := by decide +kernel
theorem dX3_allHope_26 : decode cX3_allHope 26 = .ok (.iconst 1, 1) := by decide +kernel
theorem dX3_allHope_27 : decode cX3_allHope 27 = .ok (.goto 4, 3) := by decide +kernel
theorem dX3_allHope_30 : decode cX3_allHope 30 = .ok (.iconst 0, 1) := by decide +kernel
theorem dX3_allHope_31 : decode cX3_allHope 31 = .ok (.bastore, 1) := by decide +kernel
theorem dX3_allHope_32 : decode cX3_allHope 32 = .ok (.iinc 1 1, 3) := by decide +kernel
theorem dX3_allHope_35 : decode cX3_allHope 35 = .ok (.goto (-33), 3) := by decide +kernel
theorem dX3_allHope_38 : decode cX3_allHope 38 = .ok (.iconst 1, 1) := by decide +kernel
theorem dX3_allHope_39 : decode cX3_allHope 39 = .ok (.istore_n 1, 1) := by decide +kernel
theorem dX3_allHope_40 : decode cX3_allHope 40 = .ok (.iconst 0, 1) := by decide +kernel
theorem dX3_allHope_41 : decode cX3_allHope 41 = .ok (.istore_n 2, 1) := by decide +kernel
theorem dX3_allHope_42 : decode cX3_allHope 42 = .ok (.iload_n 1, 1) := by decide +kernel
theorem dX3_allHope_43 : decode cX3_allHope 43 = .ok (.ifCond .eq 21, 3) := by decide +kernel
theorem dX3_allHope_46 : decode cX3_allHope 46 = .ok (.iload_n 2, 1) := by decide +kernel
theorem dX3_allHope_47 : decode cX3_allHope 47 = .ok (.sipush 462, 3) := by decide +kernel
theorem dX3_allHope_50 : decode cX3_allHope 50 = .ok (.if_icmp .ge 14, 3) := by decide +kernel
theorem dX3_allHope_53 : decode cX3_allHope 53 = .ok (.aload_n 0, 1) := by decide +kernel
theorem dX3_allHope_54 : decode cX3_allHope 54 = .ok (.invokevirtual 110, 3) := by decide +kernel
theorem dX3_allHope_57 : decode cX3_allHope 57 = .ok (.istore_n 1, 1) := by decide +kernel
theorem dX3_allHope_58 : decode cX3_allHope 58 = .ok (.iinc 2 1, 3) := by decide +kernel
theorem dX3_allHope_61 : decode cX3_allHope 61 = .ok (.goto (-19), 3) := by decide +kernel
theorem dX3_allHope_64 : decode cX3_allHope 64 = .ok (.iconst 0, 1) := by decide +kernel
theorem dX3_allHope_65 : decode cX3_allHope 65 = .ok (.istore_n 2, 1) := by decide +kernel
theorem dX3_allHope_66 : decode cX3_allHope 66 = .ok (.iload_n 2, 1) := by decide +kernel
theorem dX3_allHope_67 : decode cX3_allHope 67 = .ok (.aload_n 0, 1) := by decide +kernel
theorem dX3_allHope_68 : decode cX3_allHope 68 = .ok (.getfield 60, 3) := by decide +kernel
theorem dX3_allHope_71 : decode cX3_allHope 71 = .ok (.if_icmp .ge 20, 3) := by decide +kernel
theorem dX3_allHope_74 : decode cX3_allHope 74 = .ok (.aload_n 0, 1) := by decide +kernel
theorem dX3_allHope_75 : decode cX3_allHope 75 = .ok (.getfield 32, 3) := by decide +kernel
theorem dX3_allHope_78 : decode cX3_allHope 78 = .ok (.iload_n 2, 1) := by decide +kernel
theorem dX3_allHope_79 : decode cX3_allHope 79 = .ok (.baload, 1) := by decide +kernel
theorem dX3_allHope_80 : decode cX3_allHope 80 = .ok (.ifCond .ne 5, 3) := by decide +kernel
theorem dX3_allHope_83 : decode cX3_allHope 83 = .ok (.iconst 0, 1) := by decide +kernel
theorem dX3_allHope_84 : decode cX3_allHope 84 = .ok (.ireturn, 1) := by decide +kernel
theorem dX3_allHope_85 : decode cX3_allHope 85 = .ok (.iinc 2 1, 3) := by decide +kernel
theorem dX3_allHope_88 : decode cX3_allHope 88 = .ok (.goto (-22), 3) := by decide +kernel
theorem dX3_allHope_91 : decode cX3_allHope 91 = .ok (.iconst 1, 1) := by decide +kernel
theorem dX3_allHope_92 : decode cX3_allHope 92 = .ok (.ireturn, 1) := by decide +kernel
set_option maxRecDepth 20000 in
theorem ggX3_spreadHope_X3_leadsToHope : GoodIn wsX3_spreadHope wsX3_leadsToHope := goodIn_r _ [7, 8, 2, 9, 10, 11, 6, 12, 13, 14, 15, 16, 17, 18, 19, 20, 21, 22, 23, 24, 25] (by decide +kernel) (by decide +kernel)
set_option maxRecDepth 20000 in
theorem gX3_spreadHope_X3_leadsToHope : GoodIn wsX3_spreadHope (wsV RX3 113 RX3 yX3_leadsToHope wsX3_leadsToHope) := goodIn_app (goodIn_of _ (by decide +kernel)) ggX3_spreadHope_X3_leadsToHope
theorem dX3_spreadHope_0 : decode cX3_spreadHope 0 = .ok (.iconst 0, 1) := by decide +kernel
theorem dX3_spreadHope_1 : decode cX3_spreadHope 1 = .ok (.istore_n 1, 1) := by decide +kernel
theorem dX3_spreadHope_2 : decode cX3_spreadHope 2 = .ok (.aload_n 0, 1) := by decide +kernel
theorem dX3_spreadHope_3 : decode cX3_spreadHope 3 = .ok (.getfield 60, 3) := by decide +kernel
theorem dX3_spreadHope_6 : decode cX3_spreadHope 6 = .ok (.iconst 1, 1) := by decide +kernel
theorem dX3_spreadHope_7 : decode cX3_spreadHope 7 = .ok (.isub, 1) := by decide +kernel
theorem dX3_spreadHope_8 : decode cX3_spreadHope 8 = .ok (.istore_n 2, 1) := by decide +kernel
theorem dX3_spreadHope_9 : decode cX3_spreadHope 9 = .ok (.iload_n 2, 1) := by decide +kernel
theorem dX3_spreadHope_10 : decode cX3_spreadHope 10 = .ok (.ifCond .lt 35, 3) := by decide +kernel
theorem dX3_spreadHope_13 : decode cX3_spreadHope 13 = .ok (.aload_n 0, 1) := by decide +kernel
theorem dX3_spreadHope_14 : decode cX3_spreadHope 14 = .ok (.getfield 32, 3) := by decide +kernel
theorem dX3_spreadHope_17 : decode cX3_spreadHope 17 = .ok (.iload_n 2, 1) := by decide +kernel
theorem dX3_spreadHope_18 : decode cX3_spreadHope 18 = .ok (.baload, 1) := by decide +kernel
theorem dX3_spreadHope_19 : decode cX3_spreadHope 19 = .ok (.ifCond .ne 20, 3) := by decide +kernel
theorem dX3_spreadHope_22 : decode cX3_spreadHope 22 = .ok (.aload_n 0, 1) := by decide +kernel
theorem dX3_spreadHope_23 : decode cX3_spreadHope 23 = .ok (.iload_n 2, 1) := by decide +kernel
theorem dX3_spreadHope_24 : decode cX3_spreadHope 24 = .ok (.invokevirtual 113, 3) := by decide +kernel
theorem dX3_spreadHope_27 : decode cX3_spreadHope 27 = .ok (.ifCond .eq 12, 3) := by decide +kernel
theorem dX3_spreadHope_30 : decode cX3_spreadHope 30 = .ok (.aload_n 0, 1) := by decide +kernel
theorem dX3_spreadHope_31 : decode cX3_spreadHope 31 = .ok (.getfield 32, 3) := by decide +kernel
theorem dX3_spreadHope_34 : decode cX3_spreadHope 34 = .ok (.iload_n 2, 1) := by decide +kernel
theorem dX3_spreadHope_35 : decode cX3_spreadHope 35 = .ok (.iconst 1, 1) := by decide +kernel
theorem dX3_spreadHope_36 : decode cX3_spreadHope 36 = .ok (.bastore, 1) := by decide +kernel
theorem dX3_spreadHope_37 : decode cX3_spreadHope 37 = .ok (.iconst 1, 1) := by decide +kernel
theorem dX3_spreadHope_38 : decode cX3_spreadHope 38 = .ok (.istore_n 1, 1) := by decide +kernel
theorem dX3_spreadHope_39 : decode cX3_spreadHope 39 = .ok (.iinc 2 (-1), 3) := by decide +kernel
theorem dX3_spreadHope_42 : decode cX3_spreadHope 42 = .ok (.goto (-33), 3) := by decide +kernel
theorem dX3_spreadHope_45 : decode cX3_spreadHope 45 = .ok (.iload_n 1, 1) := by decide +kernel
theorem dX3_spreadHope_46 : decode cX3_spreadHope 46 = .ok (.ireturn, 1) := by decide +kernel
set_option maxRecDepth 20000 in
theorem ggX3_leadsToHope_X3_leadAt : GoodIn wsX3_leadsToHope wsX3_leadAt := goodIn_r _ [7, 8, 9, 10, 11, 12, 13, 14, 15, 16, 17, 18, 19, 20] (by decide +kernel) (by decide +kernel)
set_option maxRecDepth 20000 in
theorem gX3_leadsToHope_X3_leadAt : GoodIn wsX3_leadsToHope (wsV RX3 97 RX3 yX3_leadAt wsX3_leadAt) := goodIn_app (goodIn_of _ (by decide +kernel)) ggX3_leadsToHope_X3_leadAt
theorem dX3_leadsToHope_0 : decode cX3_leadsToHope 0 = .ok (.iconst 0, 1) := by decide +kernel
theorem dX3_leadsToHope_1 : decode cX3_leadsToHope 1 = .ok (.istore_n 2, 1) := by decide +kernel
theorem dX3_leadsToHope_2 : decode cX3_leadsToHope 2 = .ok (.iload_n 2, 1) := by decide +kernel
theorem dX3_leadsToHope_3 : decode cX3_leadsToHope 3 = .ok (.aload_n 0, 1) := by decide +kernel
theorem dX3_leadsToHope_4 : decode cX3_leadsToHope 4 = .ok (.getfield 57, 3) := by decide +kernel
theorem dX3_leadsToHope_7 : decode cX3_leadsToHope 7 = .ok (.if_icmp .ge 31, 3) := by decide +kernel
theorem dX3_leadsToHope_10 : decode cX3_leadsToHope 10 = .ok (.aload_n 0, 1) := by decide +kernel
theorem dX3_leadsToHope_11 : decode cX3_leadsToHope 11 = .ok (.iload_n 1, 1) := by decide +kernel
theorem dX3_leadsToHope_12 : decode cX3_leadsToHope 12 = .ok (.iload_n 2, 1) := by decide +kernel
theorem dX3_leadsToHope_13 : decode cX3_leadsToHope 13 = .ok (.invokevirtual 97, 3) := by decide +kernel
theorem dX3_leadsToHope_16 : decode cX3_leadsToHope 16 = .ok (.istore_n 3, 1) := by decide +kernel
theorem dX3_leadsToHope_17 : decode cX3_leadsToHope 17 = .ok (.iload_n 3, 1) := by decide +kernel
theorem dX3_leadsToHope_18 : decode cX3_leadsToHope 18 = .ok (.ifCond .lt 14, 3) := by decide +kernel
theorem dX3_leadsToHope_21 : decode cX3_leadsToHope 21 = .ok (.aload_n 0, 1) := by decide +kernel
theorem dX3_leadsToHope_22 : decode cX3_leadsToHope 22 = .ok (.getfield 32, 3) := by decide +kernel
theorem dX3_leadsToHope_25 : decode cX3_leadsToHope 25 = .ok (.iload_n 3, 1) := by decide +kernel
theorem dX3_leadsToHope_26 : decode cX3_leadsToHope 26 = .ok (.baload, 1) := by decide +kernel
theorem dX3_leadsToHope_27 : decode cX3_leadsToHope 27 = .ok (.ifCond .eq 5, 3) := by decide +kernel
theorem dX3_leadsToHope_30 : decode cX3_leadsToHope 30 = .ok (.iconst 1, 1) := by decide +kernel
theorem dX3_leadsToHope_31 : decode cX3_leadsToHope 31 = .ok (.ireturn, 1) := by decide +kernel
theorem dX3_leadsToHope_32 : decode cX3_leadsToHope 32 = .ok (.iinc 2 1, 3) := by decide +kernel
theorem dX3_leadsToHope_35 : decode cX3_leadsToHope 35 = .ok (.goto (-33), 3) := by decide +kernel
theorem dX3_leadsToHope_38 : decode cX3_leadsToHope 38 = .ok (.iconst 0, 1) := by decide +kernel
theorem dX3_leadsToHope_39 : decode cX3_leadsToHope 39 = .ok (.ireturn, 1) := by decide +kernel
theorem dX3_fewestTillStable_0 : decode cX3_fewestTillStable 0 = .ok (.iconst 0, 1) := by decide +kernel
theorem dX3_fewestTillStable_1 : decode cX3_fewestTillStable 1 = .ok (.istore_n 1, 1) := by decide +kernel
theorem dX3_fewestTillStable_2 : decode cX3_fewestTillStable 2 = .ok (.iload_n 1, 1) := by decide +kernel
theorem dX3_fewestTillStable_3 : decode cX3_fewestTillStable 3 = .ok (.aload_n 0, 1) := by decide +kernel
theorem dX3_fewestTillStable_4 : decode cX3_fewestTillStable 4 = .ok (.getfield 60, 3) := by decide +kernel
theorem dX3_fewestTillStable_7 : decode cX3_fewestTillStable 7 = .ok (.if_icmp .ge 27, 3) := by decide +kernel
theorem dX3_fewestTillStable_10 : decode cX3_fewestTillStable 10 = .ok (.aload_n 0, 1) := by decide +kernel
theorem dX3_fewestTillStable_11 : decode cX3_fewestTillStable 11 = .ok (.getfield 29, 3) := by decide +kernel
theorem dX3_fewestTillStable_14 : decode cX3_fewestTillStable 14 = .ok (.iload_n 1, 1) := by decide +kernel
theorem dX3_fewestTillStable_15 : decode cX3_fewestTillStable 15 = .ok (.iaload, 1) := by decide +kernel
theorem dX3_fewestTillStable_16 : decode cX3_fewestTillStable 16 = .ok (.bipush (-9), 2) := by decide +kernel
theorem dX3_fewestTillStable_18 : decode cX3_fewestTillStable 18 = .ok (.if_icmp .eq 10, 3) := by decide +kernel
theorem dX3_fewestTillStable_21 : decode cX3_fewestTillStable 21 = .ok (.aload_n 0, 1) := by decide +kernel
theorem dX3_fewestTillStable_22 : decode cX3_fewestTillStable 22 = .ok (.getfield 20, 3) := by decide +kernel
theorem dX3_fewestTillStable_25 : decode cX3_fewestTillStable 25 = .ok (.iload_n 1, 1) := by decide +kernel
theorem dX3_fewestTillStable_26 : decode cX3_fewestTillStable 26 = .ok (.iaload, 1) := by decide +kernel
theorem dX3_fewestTillStable_27 : decode cX3_fewestTillStable 27 = .ok (.ireturn, 1) := by decide +kernel
theorem dX3_fewestTillStable_28 : decode cX3_fewestTillStable 28 = .ok (.iinc 1 1, 3) := by decide +kernel
theorem dX3_fewestTillStable_31 : decode cX3_fewestTillStable 31 = .ok (.goto (-29), 3) := by decide +kernel
theorem dX3_fewestTillStable_34 : decode cX3_fewestTillStable 34 = .ok (.bipush (-9), 2) := by decide +kernel
theorem dX3_fewestTillStable_36 : decode cX3_fewestTillStable 36 = .ok (.ireturn, 1) := by decide +kernel
set_option maxRecDepth 20000 in
theorem ggX3_mostChanges_X3_countOpen : GoodIn wsX3_mostChanges wsX3_countOpen := goodIn_r _ [13, 1, 3, 8, 14, 15, 16, 17, 18, 19, 20, 21, 12, 22, 23, 28, 29, 30, 31, 32, 33, 34, 35, 36, 37, 38, 39] (by decide +kernel) (by decide +kernel)
set_option maxRecDepth 20000 in
theorem gX3_mostChanges_X3_countOpen : GoodIn wsX3_mostChanges (wsV RX3 116 RX3 yX3_countOpen wsX3_countOpen) := goodIn_app (goodIn_of _ (by decide +kernel)) ggX3_mostChanges_X3_countOpen
set_option maxRecDepth 20000 in
theorem ggX3_mostChanges_X3_leave : GoodIn wsX3_mostChanges wsX3_leave := goodIn_r _ [27, 14, 3, 4, 5, 6, 7, 1, 2, 19, 20, 21, 12, 22, 23, 28, 29, 30, 31, 32, 33, 34, 35, 36, 37, 38, 39] (by decide +kernel) (by decide +kernel)
set_option maxRecDepth 20000 in
theorem gX3_mostChanges_X3_leave : GoodIn wsX3_mostChanges (wsV RX3 124 RX3 yX3_leave wsX3_leave) := goodIn_app (goodIn_of _ (by decide +kernel)) ggX3_mostChanges_X3_leave
theorem dX3_mostChanges_0 : decode cX3_mostChanges 0 = .ok (.aload_n 0, 1) := by decide +kernel
theorem dX3_mostChanges_1 : decode cX3_mostChanges 1 = .ok (.invokevirtual 116, 3) := by decide +kernel
theorem dX3_mostChanges_4 : decode cX3_mostChanges 4 = .ok (.iconst 0, 1) := by decide +kernel
theorem dX3_mostChanges_5 : decode cX3_mostChanges 5 = .ok (.istore_n 1, 1) := by decide +kernel
theorem dX3_mostChanges_6 : decode cX3_mostChanges 6 = .ok (.aload_n 0, 1) := by decide +kernel
theorem dX3_mostChanges_7 : decode cX3_mostChanges 7 = .ok (.getfield 36, 3) := by decide +kernel
theorem dX3_mostChanges_10 : decode cX3_mostChanges 10 = .ok (.iconst 0, 1) := by decide +kernel
theorem dX3_mostChanges_11 : decode cX3_mostChanges 11 = .ok (.iaload, 1) := by decide +kernel
theorem dX3_mostChanges_12 : decode cX3_mostChanges 12 = .ok (.ifCond .ne 12, 3) := by decide +kernel
theorem dX3_mostChanges_15 : decode cX3_mostChanges 15 = .ok (.aload_n 0, 1) := by decide +kernel
theorem dX3_mostChanges_16 : decode cX3_mostChanges 16 = .ok (.getfield 42, 3) := by decide +kernel
theorem dX3_mostChanges_19 : decode cX3_mostChanges 19 = .ok (.iconst 0, 1) := by decide +kernel
theorem dX3_mostChanges_20 : decode cX3_mostChanges 20 = .ok (.iconst 0, 1) := by decide +kernel
theorem dX3_mostChanges_21 : decode cX3_mostChanges 21 = .ok (.iastore, 1) := by decide +kernel
theorem dX3_mostChanges_22 : decode cX3_mostChanges 22 = .ok (.iconst 1, 1) := by decide +kernel
theorem dX3_mostChanges_23 : decode cX3_mostChanges 23 = .ok (.istore_n 1, 1) := by decide +kernel
theorem dX3_mostChanges_24 : decode cX3_mostChanges 24 = .ok (.iconst 0, 1) := by decide +kernel
theorem dX3_mostChanges_25 : decode cX3_mostChanges 25 = .ok (.istore_n 2, 1) := by decide +kernel
theorem dX3_mostChanges_26 : decode cX3_mostChanges 26 = .ok (.iconst 0, 1) := by decide +kernel
theorem dX3_mostChanges_27 : decode cX3_mostChanges 27 = .ok (.istore_n 3, 1) := by decide +kernel
theorem dX3_mostChanges_28 : decode cX3_mostChanges 28 = .ok (.iload_n 3, 1) := by decide +kernel
theorem dX3_mostChanges_29 : decode cX3_mostChanges 29 = .ok (.iload_n 1, 1) := by decide +kernel
theorem dX3_mostChanges_30 : decode cX3_mostChanges 30 = .ok (.if_icmp .ge 44, 3) := by decide +kernel
theorem dX3_mostChanges_33 : decode cX3_mostChanges 33 = .ok (.iload_n 3, 1) := by decide +kernel
theorem dX3_mostChanges_34 : decode cX3_mostChanges 34 = .ok (.sipush 462, 3) := by decide +kernel
theorem dX3_mostChanges_37 : decode cX3_mostChanges 37 = .ok (.if_icmp .ge 37, 3) := by decide +kernel
theorem dX3_mostChanges_40 : decode cX3_mostChanges 40 = .ok (.iload_n 2, 1) := by decide +kernel
theorem dX3_mostChanges_41 : decode cX3_mostChanges 41 = .ok (.aload_n 0, 1) := by decide +kernel
theorem dX3_mostChanges_42 : decode cX3_mostChanges 42 = .ok (.getfield 39, 3) := by decide +kernel
theorem dX3_mostChanges_45 : decode cX3_mostChanges 45 = .ok (.aload_n 0, 1) := by decide +kernel
theorem dX3_mostChanges_46 : decode cX3_mostChanges 46 = .ok (.getfield 42, 3) := by decide +kernel
theorem dX3_mostChanges_49 : decode cX3_mostChanges 49 = .ok (.iload_n 3, 1) := by decide +kernel
theorem dX3_mostChanges_50 : decode cX3_mostChanges 50 = .ok (.iaload, 1) := by decide +kernel
theorem dX3_mostChanges_51 : decode cX3_mostChanges 51 = .ok (.iaload, 1) := by decide +kernel
theorem dX3_mostChanges_52 : decode cX3_mostChanges 52 = .ok (.invokestatic 119, 3) := by decide +kernel
theorem dX3_mostChanges_55 : decode cX3_mostChanges 55 = .ok (.istore_n 2, 1) := by decide +kernel
theorem dX3_mostChanges_56 : decode cX3_mostChanges 56 = .ok (.aload_n 0, 1) := by decide +kernel
theorem dX3_mostChanges_57 : decode cX3_mostChanges 57 = .ok (.aload_n 0, 1) := by decide +kernel
theorem dX3_mostChanges_58 : decode cX3_mostChanges 58 = .ok (.getfield 42, 3) := by decide +kernel
theorem dX3_mostChanges_61 : decode cX3_mostChanges 61 = .ok (.iload_n 3, 1) := by decide +kernel
theorem dX3_mostChanges_62 : decode cX3_mostChanges 62 = .ok (.iaload, 1) := by decide +kernel
theorem dX3_mostChanges_63 : decode cX3_mostChanges 63 = .ok (.iload_n 1, 1) := by decide +kernel
theorem dX3_mostChanges_64 : decode cX3_mostChanges 64 = .ok (.invokevirtual 124, 3) := by decide +kernel
theorem dX3_mostChanges_67 : decode cX3_mostChanges 67 = .ok (.istore_n 1, 1) := by decide +kernel
theorem dX3_mostChanges_68 : decode cX3_mostChanges 68 = .ok (.iinc 3 1, 3) := by decide +kernel
theorem dX3_mostChanges_71 : decode cX3_mostChanges 71 = .ok (.goto (-43), 3) := by decide +kernel
theorem dX3_mostChanges_74 : decode cX3_mostChanges 74 = .ok (.iload_n 1, 1) := by decide +kernel
theorem dX3_mostChanges_75 : decode cX3_mostChanges 75 = .ok (.aload_n 0, 1) := by decide +kernel
theorem dX3_mostChanges_76 : decode cX3_mostChanges 76 = .ok (.getfield 60, 3) := by decide +kernel
theorem dX3_mostChanges_79 : decode cX3_mostChanges 79 = .ok (.if_icmp .ge 8, 3) := by decide +kernel
theorem dX3_mostChanges_82 : decode cX3_mostChanges 82 = .ok (.bipush (-9), 2) := by decide +kernel
theorem dX3_mostChanges_84 : decode cX3_mostChanges 84 = .ok (.goto 4, 3) := by decide +kernel
theorem dX3_mostChanges_87 : decode cX3_mostChanges 87 = .ok (.iload_n 2, 1) := by decide +kernel
theorem dX3_mostChanges_88 : decode cX3_mostChanges 88 = .ok (.ireturn, 1) := by decide +kernel
set_option maxRecDepth 20000 in
theorem ggX3_countOpen_J7_fill_53178 : GoodIn wsX3_countOpen wsJ7_fill_53178 := goodIn_r _ [8] (by decide +kernel) (by decide +kernel)
set_option maxRecDepth 20000 in
theorem gX3_countOpen_J7_fill_53178 : GoodIn wsX3_countOpen (va_wsS RX3 45 yJ7_fill_53178 wsJ7_fill_53178) := goodIn_app (goodIn_of _ (by decide +kernel)) ggX3_countOpen_J7_fill_53178
set_option maxRecDepth 20000 in
theorem ggX3_countOpen_X3_leadAt : GoodIn wsX3_countOpen wsX3_leadAt := goodIn_r _ [13, 14, 15, 16, 17, 18, 19, 20, 21, 22, 23, 24, 25, 26] (by decide +kernel) (by decide +kernel)
set_option maxRecDepth 20000 in
theorem gX3_countOpen_X3_leadAt : GoodIn wsX3_countOpen (wsV RX3 97 RX3 yX3_leadAt wsX3_leadAt) := goodIn_app (goodIn_of _ (by decide +kernel)) ggX3_countOpen_X3_leadAt
theorem dX3_countOpen_0 : decode cX3_countOpen 0 = .ok (.aload_n 0, 1) := by decide +kernel
theorem dX3_countOpen_1 : decode cX3_countOpen 1 = .ok (.getfield 36, 3) := by decide +kernel
theorem dX3_countOpen_4 : decode cX3_countOpen 4 = .ok (.iconst 0, 1) := by decide +kernel
theorem dX3_countOpen_5 : decode cX3_countOpen 5 = .ok (.invokestatic 45, 3) := by decide +kernel
theorem dX3_countOpen_8 : decode cX3_countOpen 8 = .ok (.aload_n 0, 1) := by decide +kernel
theorem dX3_countOpen_9 : decode cX3_countOpen 9 = .ok (.getfield 39, 3) := by decide +kernel
theorem dX3_countOpen_12 : decode cX3_countOpen 12 = .ok (.iconst 0, 1) := by decide +kernel
theorem dX3_countOpen_13 : decode cX3_countOpen 13 = .ok (.invokestatic 45, 3) := by decide +kernel
theorem dX3_countOpen_16 : decode cX3_countOpen 16 = .ok (.iconst 0, 1) := by decide +kernel
theorem dX3_countOpen_17 : decode cX3_countOpen 17 = .ok (.istore_n 1, 1) := by decide +kernel
theorem dX3_countOpen_18 : decode cX3_countOpen 18 = .ok (.iload_n 1, 1) := by decide +kernel
theorem dX3_countOpen_19 : decode cX3_countOpen 19 = .ok (.aload_n 0, 1) := by decide +kernel
theorem dX3_countOpen_20 : decode cX3_countOpen 20 = .ok (.getfield 60, 3) := by decide +kernel
theorem dX3_countOpen_23 : decode cX3_countOpen 23 = .ok (.if_icmp .ge 46, 3) := by decide +kernel
theorem dX3_countOpen_26 : decode cX3_countOpen 26 = .ok (.iconst 0, 1) := by decide +kernel
theorem dX3_countOpen_27 : decode cX3_countOpen 27 = .ok (.istore_n 2, 1) := by decide +kernel
theorem dX3_countOpen_28 : decode cX3_countOpen 28 = .ok (.iload_n 2, 1) := by decide +kernel
theorem dX3_countOpen_29 : decode cX3_countOpen 29 = .ok (.aload_n 0, 1) := by decide +kernel
theorem dX3_countOpen_30 : decode cX3_countOpen 30 = .ok (.getfield 57, 3) := by decide +kernel
theorem dX3_countOpen_33 : decode cX3_countOpen 33 = .ok (.if_icmp .ge 30, 3) := by decide +kernel
theorem dX3_countOpen_36 : decode cX3_countOpen 36 = .ok (.aload_n 0, 1) := by decide +kernel
theorem dX3_countOpen_37 : decode cX3_countOpen 37 = .ok (.iload_n 1, 1) := by decide +kernel
theorem dX3_countOpen_38 : decode cX3_countOpen 38 = .ok (.iload_n 2, 1) := by decide +kernel
theorem dX3_countOpen_39 : decode cX3_countOpen 39 = .ok (.invokevirtual 97, 3) := by decide +kernel
theorem dX3_countOpen_42 : decode cX3_countOpen 42 = .ok (.istore_n 3, 1) := by decide +kernel
theorem dX3_countOpen_43 : decode cX3_countOpen 43 = .ok (.iload_n 3, 1) := by decide +kernel
theorem dX3_countOpen_44 : decode cX3_countOpen 44 = .ok (.ifCond .lt 13, 3) := by decide +kernel
theorem dX3_countOpen_47 : decode cX3_countOpen 47 = .ok (.aload_n 0, 1) := by decide +kernel
theorem dX3_countOpen_48 : decode cX3_countOpen 48 = .ok (.getfield 36, 3) := by decide +kernel
theorem dX3_countOpen_51 : decode cX3_countOpen 51 = .ok (.iload_n 3, 1) := by decide +kernel
theorem dX3_countOpen_52 : decode cX3_countOpen 52 = .ok (.dup2, 1) := by decide +kernel
theorem dX3_countOpen_53 : decode cX3_countOpen 53 = .ok (.iaload, 1) := by decide +kernel
theorem dX3_countOpen_54 : decode cX3_countOpen 54 = .ok (.iconst 1, 1) := by decide +kernel
theorem dX3_countOpen_55 : decode cX3_countOpen 55 = .ok (.iadd, 1) := by decide +kernel
theorem dX3_countOpen_56 : decode cX3_countOpen 56 = .ok (.iastore, 1) := by decide +kernel
theorem dX3_countOpen_57 : decode cX3_countOpen 57 = .ok (.iinc 2 1, 3) := by decide +kernel
theorem dX3_countOpen_60 : decode cX3_countOpen 60 = .ok (.goto (-32), 3) := by decide +kernel
theorem dX3_countOpen_63 : decode cX3_countOpen 63 = .ok (.iinc 1 1, 3) := by decide +kernel
theorem dX3_countOpen_66 : decode cX3_countOpen 66 = .ok (.goto (-48), 3) := by decide +kernel
theorem dX3_countOpen_69 : decode cX3_countOpen 69 = .ok (.return_, 1) := by decide +kernel
set_option maxRecDepth 20000 in
theorem ggX3_leave_X3_leadAt : GoodIn wsX3_leave wsX3_leadAt := goodIn_r _ [13, 14, 15, 16, 17, 18, 19, 20, 21, 22, 23, 24, 25, 26] (by decide +kernel) (by decide +kernel)
set_option maxRecDepth 20000 in
theorem gX3_leave_X3_leadAt : GoodIn wsX3_leave (wsV RX3 97 RX3 yX3_leadAt wsX3_leadAt) := goodIn_app (goodIn_of _ (by decide +kernel)) ggX3_leave_X3_leadAt
theorem dX3_leave_0 : decode cX3_leave 0 = .ok (.iload_n 2, 1) := by decide +kernel
theorem dX3_leave_1 : decode cX3_leave 1 = .ok (.istore_n 3, 1) := by decide +kernel
theorem dX3_leave_2 : decode cX3_leave 2 = .ok (.iconst 0, 1) := by decide +kernel
theorem dX3_leave_3 : decode cX3_leave 3 = .ok (.istore 4, 2) := by decide +kernel
theorem dX3_leave_5 : decode cX3_leave 5 = .ok (.iload 4, 2) := by decide +kernel
theorem dX3_leave_7 : decode cX3_leave 7 = .ok (.aload_n 0, 1) := by decide +kernel
theorem dX3_leave_8 : decode cX3_leave 8 = .ok (.getfield 57, 3) := by decide +kernel
theorem dX3_leave_11 : decode cX3_leave 11 = .ok (.if_icmp .ge 87, 3) := by decide +kernel
theorem dX3_leave_14 : decode cX3_leave 14 = .ok (.aload_n 0, 1) := by decide +kernel
theorem dX3_leave_15 : decode cX3_leave 15 = .ok (.iload_n 1, 1) := by decide +kernel
theorem dX3_leave_16 : decode cX3_leave 16 = .ok (.iload 4, 2) := by decide +kernel
theorem dX3_leave_18 : decode cX3_leave 18 = .ok (.invokevirtual 97, 3) := by decide +kernel
theorem dX3_leave_21 : decode cX3_leave 21 = .ok (.istore 5, 2) := by decide +kernel
theorem dX3_leave_23 : decode cX3_leave 23 = .ok (.iload 5, 2) := by decide +kernel
theorem dX3_leave_25 : decode cX3_leave 25 = .ok (.ifCond .lt 67, 3) := by decide +kernel
theorem dX3_leave_28 : decode cX3_leave 28 = .ok (.aload_n 0, 1) := by decide +kernel
theorem dX3_leave_29 : decode cX3_leave 29 = .ok (.getfield 39, 3) := by decide +kernel
theorem dX3_leave_32 : decode cX3_leave 32 = .ok (.iload 5, 2) := by decide +kernel
theorem dX3_leave_34 : decode cX3_leave 34 = .ok (.aload_n 0, 1) := by decide +kernel
theorem dX3_leave_35 : decode cX3_leave 35 = .ok (.getfield 39, 3) := by decide +kernel
theorem dX3_leave_38 : decode cX3_leave 38 = .ok (.iload 5, 2) := by decide +kernel
theorem dX3_leave_40 : decode cX3_leave 40 = .ok (.iaload, 1) := by decide +kernel
theorem dX3_leave_41 : decode cX3_leave 41 = .ok (.aload_n 0, 1) := by decide +kernel
theorem dX3_leave_42 : decode cX3_leave 42 = .ok (.getfield 39, 3) := by decide +kernel
theorem dX3_leave_45 : decode cX3_leave 45 = .ok (.iload_n 1, 1) := by decide +kernel
theorem dX3_leave_46 : decode cX3_leave 46 = .ok (.iaload, 1) := by decide +kernel
theorem dX3_leave_47 : decode cX3_leave 47 = .ok (.iconst 1, 1) := by decide +kernel
theorem dX3_leave_48 : decode cX3_leave 48 = .ok (.iadd, 1) := by decide +kernel
theorem dX3_leave_49 : decode cX3_leave 49 = .ok (.invokestatic 119, 3) := by decide +kernel
theorem dX3_leave_52 : decode cX3_leave 52 = .ok (.iastore, 1) := by decide +kernel
theorem dX3_leave_53 : decode cX3_leave 53 = .ok (.aload_n 0, 1) := by decide +kernel
theorem dX3_leave_54 : decode cX3_leave 54 = .ok (.getfield 36, 3) := by decide +kernel
theorem dX3_leave_57 : decode cX3_leave 57 = .ok (.iload 5, 2) := by decide +kernel
theorem dX3_leave_59 : decode cX3_leave 59 = .ok (.dup2, 1) := by decide +kernel
theorem dX3_leave_60 : decode cX3_leave 60 = .ok (.iaload, 1) := by decide +kernel
theorem dX3_leave_61 : decode cX3_leave 61 = .ok (.iconst 1, 1) := by decide +kernel
theorem dX3_leave_62 : decode cX3_leave 62 = .ok (.isub, 1) := by decide +kernel
theorem dX3_leave_63 : decode cX3_leave 63 = .ok (.iastore, 1) := by decide +kernel
theorem dX3_leave_64 : decode cX3_leave 64 = .ok (.aload_n 0, 1) := by decide +kernel
theorem dX3_leave_65 : decode cX3_leave 65 = .ok (.getfield 36, 3) := by decide +kernel
theorem dX3_leave_68 : decode cX3_leave 68 = .ok (.iload 5, 2) := by decide +kernel
theorem dX3_leave_70 : decode cX3_leave 70 = .ok (.iaload, 1) := by decide +kernel
theorem dX3_leave_71 : decode cX3_leave 71 = .ok (.ifCond .ne 21, 3) := by decide +kernel
theorem dX3_leave_74 : decode cX3_leave 74 = .ok (.iload_n 3, 1) := by decide +kernel
theorem dX3_leave_75 : decode cX3_leave 75 = .ok (.sipush 462, 3) := by decide +kernel
theorem dX3_leave_78 : decode cX3_leave 78 = .ok (.if_icmp .ge 14, 3) := by decide +kernel
theorem dX3_leave_81 : decode cX3_leave 81 = .ok (.aload_n 0, 1) := by decide +kernel
theorem dX3_leave_82 : decode cX3_leave 82 = .ok (.getfield 42, 3) := by decide +kernel
theorem dX3_leave_85 : decode cX3_leave 85 = .ok (.iload_n 3, 1) := by decide +kernel
theorem dX3_leave_86 : decode cX3_leave 86 = .ok (.iload 5, 2) := by decide +kernel
theorem dX3_leave_88 : decode cX3_leave 88 = .ok (.iastore, 1) := by decide +kernel
theorem dX3_leave_89 : decode cX3_leave 89 = .ok (.iinc 3 1, 3) := by decide +kernel
theorem dX3_leave_92 : decode cX3_leave 92 = .ok (.iinc 4 1, 3) := by decide +kernel
theorem dX3_leave_95 : decode cX3_leave 95 = .ok (.goto (-90), 3) := by decide +kernel
theorem dX3_leave_98 : decode cX3_leave 98 = .ok (.iload_n 3, 1) := by decide +kernel
theorem dX3_leave_99 : decode cX3_leave 99 = .ok (.ireturn, 1) := by decide +kernel
set_option maxRecDepth 20000 in
theorem ggX4_init_J7_fill_53178 : GoodIn wsX4_init wsJ7_fill_53178 := goodIn_r _ [10] (by decide +kernel) (by decide +kernel)
set_option maxRecDepth 20000 in
theorem gX4_init_J7_fill_53178 : GoodIn wsX4_init (va_wsS RX4 20 yJ7_fill_53178 wsJ7_fill_53178) := goodIn_app (goodIn_of _ (by decide +kernel)) ggX4_init_J7_fill_53178
theorem dX4_init_0 : decode cX4_init 0 = .ok (.aload_n 0, 1) := by decide +kernel
theorem dX4_init_1 : decode cX4_init 1 = .ok (.invokespecial 3, 3) := by decide +kernel
theorem dX4_init_4 : decode cX4_init 4 = .ok (.aload_n 0, 1) := by decide +kernel
theorem dX4_init_5 : decode cX4_init 5 = .ok (.bipush 12, 2) := by decide +kernel
theorem dX4_init_7 : decode cX4_init 7 = .ok (.newarray .int, 2) := by decide +kernel
theorem dX4_init_9 : decode cX4_init 9 = .ok (.putfield 9, 3) := by decide +kernel
theorem dX4_init_12 : decode cX4_init 12 = .ok (.aload_n 0, 1) := by decide +kernel
theorem dX4_init_13 : decode cX4_init 13 = .ok (.bipush 36, 2) := by decide +kernel
theorem dX4_init_15 : decode cX4_init 15 = .ok (.newarray .int, 2) := by decide +kernel
theorem dX4_init_17 : decode cX4_init 17 = .ok (.putfield 17, 3) := by decide +kernel
theorem dX4_init_20 : decode cX4_init 20 = .ok (.aload_n 0, 1) := by decide +kernel
theorem dX4_init_21 : decode cX4_init 21 = .ok (.getfield 17, 3) := by decide +kernel
theorem dX4_init_24 : decode cX4_init 24 = .ok (.iconst (-1), 1) := by decide +kernel
theorem dX4_init_25 : decode cX4_init 25 = .ok (.invokestatic 20, 3) := by decide +kernel
theorem dX4_init_28 : decode cX4_init 28 = .ok (.return_, 1) := by decide +kernel
set_option maxRecDepth 20000 in
theorem ggX4_clear_J7_fill_53178 : GoodIn wsX4_clear wsJ7_fill_53178 := goodIn_r _ [6] (by decide +kernel) (by decide +kernel)
set_option maxRecDepth 20000 in
theorem gX4_clear_J7_fill_53178 : GoodIn wsX4_clear (va_wsS RX4 20 yJ7_fill_53178 wsJ7_fill_53178) := goodIn_app (goodIn_of _ (by decide +kernel)) ggX4_clear_J7_fill_53178
theorem dX4_clear_0 : decode cX4_clear 0 = .ok (.aload_n 0, 1) := by decide +kernel
theorem dX4_clear_1 : decode cX4_clear 1 = .ok (.getfield 17, 3) := by decide +kernel
theorem dX4_clear_4 : decode cX4_clear 4 = .ok (.iconst (-1), 1) := by decide +kernel
theorem dX4_clear_5 : decode cX4_clear 5 = .ok (.invokestatic 20, 3) := by decide +kernel
theorem dX4_clear_8 : decode cX4_clear 8 = .ok (.aload_n 0, 1) := by decide +kernel
theorem dX4_clear_9 : decode cX4_clear 9 = .ok (.iconst 0, 1) := by decide +kernel
theorem dX4_clear_10 : decode cX4_clear 10 = .ok (.putfield 26, 3) := by decide +kernel
theorem dX4_clear_13 : decode cX4_clear 13 = .ok (.return_, 1) := by decide +kernel
set_option maxRecDepth 20000 in
theorem ggX4_put_X4_take : GoodIn wsX4_put wsX4_take := goodIn_r _ [8, 2, 3, 1, 9, 10, 11] (by decide +kernel) (by decide +kernel)
set_option maxRecDepth 20000 in
theorem gX4_put_X4_take : GoodIn wsX4_put (wsV RX4 30 RX4 yX4_take wsX4_take) := goodIn_app (goodIn_of _ (by decide +kernel)) ggX4_put_X4_take
theorem dX4_put_0 : decode cX4_put 0 = .ok (.aload_n 0, 1) := by decide +kernel
theorem dX4_put_1 : decode cX4_put 1 = .ok (.getfield 17, 3) := by decide +kernel
theorem dX4_put_4 : decode cX4_put 4 = .ok (.iload_n 1, 1) := by decide +kernel
theorem dX4_put_5 : decode cX4_put 5 = .ok (.iaload, 1) := by decide +kernel
theorem dX4_put_6 : decode cX4_put 6 = .ok (.ifCond .lt 11, 3) := by decide +kernel
theorem dX4_put_9 : decode cX4_put 9 = .ok (.aload_n 0, 1) := by decide +kernel
theorem dX4_put_10 : decode cX4_put 10 = .ok (.iload_n 1, 1) := by decide +kernel
theorem dX4_put_11 : decode cX4_put 11 = .ok (.invokevirtual 30, 3) := by decide +kernel
theorem dX4_put_14 : decode cX4_put 14 = .ok (.goto 22, 3) := by decide +kernel
theorem dX4_put_17 : decode cX4_put 17 = .ok (.aload_n 0, 1) := by decide +kernel
theorem dX4_put_18 : decode cX4_put 18 = .ok (.getfield 26, 3) := by decide +kernel
theorem dX4_put_21 : decode cX4_put 21 = .ok (.bipush 12, 2) := by decide +kernel
theorem dX4_put_23 : decode cX4_put 23 = .ok (.if_icmp .lt 13, 3) := by decide +kernel
theorem dX4_put_26 : decode cX4_put 26 = .ok (.aload_n 0, 1) := by decide +kernel
theorem dX4_put_27 : decode cX4_put 27 = .ok (.aload_n 0, 1) := by decide +kernel
theorem dX4_put_28 : decode cX4_put 28 = .ok (.getfield 9, 3) := by decide +kernel
theorem dX4_put_31 : decode cX4_put 31 = .ok (.iconst 0, 1) := by decide +kernel
theorem dX4_put_32 : decode cX4_put 32 = .ok (.iaload, 1) := by decide +kernel
theorem dX4_put_33 : decode cX4_put 33 = .ok (.invokevirtual 30, 3) := by decide +kernel
theorem dX4_put_36 : decode cX4_put 36 = .ok (.aload_n 0, 1) := by decide +kernel
theorem dX4_put_37 : decode cX4_put 37 = .ok (.getfield 9, 3) := by decide +kernel
theorem dX4_put_40 : decode cX4_put 40 = .ok (.aload_n 0, 1) := by decide +kernel
theorem dX4_put_41 : decode cX4_put 41 = .ok (.getfield 26, 3) := by decide +kernel
theorem dX4_put_44 : decode cX4_put 44 = .ok (.iload_n 1, 1) := by decide +kernel
theorem dX4_put_45 : decode cX4_put 45 = .ok (.iastore, 1) := by decide +kernel
theorem dX4_put_46 : decode cX4_put 46 = .ok (.aload_n 0, 1) := by decide +kernel
theorem dX4_put_47 : decode cX4_put 47 = .ok (.getfield 17, 3) := by decide +kernel
theorem dX4_put_50 : decode cX4_put 50 = .ok (.iload_n 1, 1) := by decide +kernel
theorem dX4_put_51 : decode cX4_put 51 = .ok (.iload_n 2, 1) := by decide +kernel
theorem dX4_put_52 : decode cX4_put 52 = .ok (.iastore, 1) := by decide +kernel
theorem dX4_put_53 : decode cX4_put 53 = .ok (.aload_n 0, 1) := by decide +kernel
theorem dX4_put_54 : decode cX4_put 54 = .ok (.dup, 1) := by decide +kernel
theorem dX4_put_55 : decode cX4_put 55 = .ok (.getfield 26, 3) := by decide +kernel
theorem dX4_put_58 : decode cX4_put 58 = .ok (.iconst 1, 1) := by decide +kernel
theorem dX4_put_59 : decode cX4_put 59 = .ok (.iadd, 1) := by decide +kernel
theorem dX4_put_60 : decode cX4_put 60 = .ok (.putfield 26, 3) := by decide +kernel
theorem dX4_put_63 : decode cX4_put 63 = .ok (.return_, 1) := by decide +kernel
theorem dX4_take_0 : decode cX4_take 0 = .ok (.iconst 0, 1) := by decide +kernel
theorem dX4_take_1 : decode cX4_take 1 = .ok (.istore_n 2, 1) := by decide +kernel
theorem dX4_take_2 : decode cX4_take 2 = .ok (.iconst 0, 1) := by decide +kernel
theorem dX4_take_3 : decode cX4_take 3 = .ok (.istore_n 3, 1) := by decide +kernel
theorem dX4_take_4 : decode cX4_take 4 = .ok (.iload_n 3, 1) := by decide +kernel
theorem dX4_take_5 : decode cX4_take 5 = .ok (.aload_n 0, 1) := by decide +kernel
theorem dX4_take_6 : decode cX4_take 6 = .ok (.getfield 26, 3) := by decide +kernel
theorem dX4_take_9 : decode cX4_take 9 = .ok (.if_icmp .ge 34, 3) := by decide +kernel
theorem dX4_take_12 : decode cX4_take 12 = .ok (.aload_n 0, 1) := by decide +kernel
theorem dX4_take_13 : decode cX4_take 13 = .ok (.getfield 9, 3) := by decide +kernel
theorem dX4_take_16 : decode cX4_take 16 = .ok (.iload_n 3, 1) := by decide +kernel
theorem dX4_take_17 : decode cX4_take 17 = .ok (.iaload, 1) := by decide +kernel
theorem dX4_take_18 : decode cX4_take 18 = .ok (.iload_n 1, 1) := by decide +kernel
theorem dX4_take_19 : decode cX4_take 19 = .ok (.if_icmp .eq 18, 3) := by decide +kernel
theorem dX4_take_22 : decode cX4_take 22 = .ok (.aload_n 0, 1) := by decide +kernel
theorem dX4_take_23 : decode cX4_take 23 = .ok (.getfield 9, 3) := by decide +kernel
theorem dX4_take_26 : decode cX4_take 26 = .ok (.iload_n 2, 1) := by decide +kernel
theorem dX4_take_27 : decode cX4_take 27 = .ok (.aload_n 0, 1) := by decide +kernel
theorem dX4_take_28 : decode cX4_take 28 = .ok (.getfield 9, 3) := by decide +kernel
theorem dX4_take_31 : decode cX4_take 31 = .ok (.iload_n 3, 1) := by decide +kernel
theorem dX4_take_32 : decode cX4_take 32 = .ok (.iaload, 1) := by decide +kernel
theorem dX4_take_33 : decode cX4_take 33 = .ok (.iastore, 1) := by decide +kernel
theorem dX4_take_34 : decode cX4_take 34 = .ok (.iinc 2 1, 3) := by decide +kernel
theorem dX4_take_37 : decode cX4_take 37 = .ok (.iinc 3 1, 3) := by decide +kernel
theorem dX4_take_40 : decode cX4_take 40 = .ok (.goto (-36), 3) := by decide +kernel
theorem dX4_take_43 : decode cX4_take 43 = .ok (.aload_n 0, 1) := by decide +kernel
theorem dX4_take_44 : decode cX4_take 44 = .ok (.iload_n 2, 1) := by decide +kernel
theorem dX4_take_45 : decode cX4_take 45 = .ok (.putfield 26, 3) := by decide +kernel
theorem dX4_take_48 : decode cX4_take 48 = .ok (.aload_n 0, 1) := by decide +kernel
theorem dX4_take_49 : decode cX4_take 49 = .ok (.getfield 17, 3) := by decide +kernel
theorem dX4_take_52 : decode cX4_take 52 = .ok (.iload_n 1, 1) := by decide +kernel
theorem dX4_take_53 : decode cX4_take 53 = .ok (.iconst (-1), 1) := by decide +kernel
theorem dX4_take_54 : decode cX4_take 54 = .ok (.iastore, 1) := by decide +kernel
theorem dX4_take_55 : decode cX4_take 55 = .ok (.return_, 1) := by decide +kernel
theorem dX4_outcome_0 : decode cX4_outcome 0 = .ok (.aload_n 0, 1) := by decide +kernel
theorem dX4_outcome_1 : decode cX4_outcome 1 = .ok (.getfield 17, 3) := by decide +kernel
theorem dX4_outcome_4 : decode cX4_outcome 4 = .ok (.iload_n 1, 1) := by decide +kernel
theorem dX4_outcome_5 : decode cX4_outcome 5 = .ok (.iaload, 1) := by decide +kernel
theorem dX4_outcome_6 : decode cX4_outcome 6 = .ok (.ireturn, 1) := by decide +kernel
theorem dX4_twoAt_0 : decode cX4_twoAt 0 = .ok (.aload_n 0, 1) := by decide +kernel
theorem dX4_twoAt_1 : decode cX4_twoAt 1 = .ok (.getfield 9, 3) := by decide +kernel
theorem dX4_twoAt_4 : decode cX4_twoAt 4 = .ok (.iload_n 1, 1) := by decide +kernel
theorem dX4_twoAt_5 : decode cX4_twoAt 5 = .ok (.iaload, 1) := by decide +kernel
theorem dX4_twoAt_6 : decode cX4_twoAt 6 = .ok (.ireturn, 1) := by decide +kernel
theorem dX4_outcomeAt_0 : decode cX4_outcomeAt 0 = .ok (.aload_n 0, 1) := by decide +kernel
theorem dX4_outcomeAt_1 : decode cX4_outcomeAt 1 = .ok (.getfield 17, 3) := by decide +kernel
theorem dX4_outcomeAt_4 : decode cX4_outcomeAt 4 = .ok (.aload_n 0, 1) := by decide +kernel
theorem dX4_outcomeAt_5 : decode cX4_outcomeAt 5 = .ok (.getfield 9, 3) := by decide +kernel
theorem dX4_outcomeAt_8 : decode cX4_outcomeAt 8 = .ok (.iload_n 1, 1) := by decide +kernel
theorem dX4_outcomeAt_9 : decode cX4_outcomeAt 9 = .ok (.iaload, 1) := by decide +kernel
theorem dX4_outcomeAt_10 : decode cX4_outcomeAt 10 = .ok (.iaload, 1) := by decide +kernel
theorem dX4_outcomeAt_11 : decode cX4_outcomeAt 11 = .ok (.ireturn, 1) := by decide +kernel
set_option maxRecDepth 20000 in
theorem ggX4_statesNamedAt_X4_twoAt : GoodIn wsX4_statesNamedAt wsX4_twoAt := goodIn_r _ [5, 6, 19, 20, 21] (by decide +kernel) (by decide +kernel)
set_option maxRecDepth 20000 in
theorem gX4_statesNamedAt_X4_twoAt : GoodIn wsX4_statesNamedAt (wsV RX4 34 RX4 yX4_twoAt wsX4_twoAt) := goodIn_app (goodIn_of _ (by decide +kernel)) ggX4_statesNamedAt_X4_twoAt
set_option maxRecDepth 20000 in
theorem ggX4_statesNamedAt_X4_outcomeAt : GoodIn wsX4_statesNamedAt wsX4_outcomeAt := goodIn_r _ [10, 11, 6, 19, 20, 21] (by decide +kernel) (by decide +kernel)
set_option maxRecDepth 20000 in
theorem gX4_statesNamedAt_X4_outcomeAt : GoodIn wsX4_statesNamedAt (wsV RX4 38 RX4 yX4_outcomeAt wsX4_outcomeAt) := goodIn_app (goodIn_of _ (by decide +kernel)) ggX4_statesNamedAt_X4_outcomeAt
set_option maxRecDepth 20000 in
theorem ggX4_statesNamedAt_X5_first : GoodIn wsX4_statesNamedAt wsX5_first := goodIn_r _ [15] (by decide +kernel) (by decide +kernel)
set_option maxRecDepth 20000 in
theorem gX4_statesNamedAt_X5_first : GoodIn wsX4_statesNamedAt (va_wsS RX4 41 yX5_first wsX5_first) := goodIn_app (goodIn_of _ (by decide +kernel)) ggX4_statesNamedAt_X5_first
set_option maxRecDepth 20000 in
theorem ggX4_statesNamedAt_X5_second : GoodIn wsX4_statesNamedAt wsX5_second := goodIn_r _ [18] (by decide +kernel) (by decide +kernel)
set_option maxRecDepth 20000 in
theorem gX4_statesNamedAt_X5_second : GoodIn wsX4_statesNamedAt (va_wsS RX4 44 yX5_second wsX5_second) := goodIn_app (goodIn_of _ (by decide +kernel)) ggX4_statesNamedAt_X5_second
theorem dX4_statesNamedAt_0 : decode cX4_statesNamedAt 0 = .ok (.aload_n 0, 1) := by decide +kernel
theorem dX4_statesNamedAt_1 : decode cX4_statesNamedAt 1 = .ok (.iload_n 1, 1) := by decide +kernel
theorem dX4_statesNamedAt_2 : decode cX4_statesNamedAt 2 = .ok (.invokevirtual 34, 3) := by decide +kernel
theorem dX4_statesNamedAt_5 : decode cX4_statesNamedAt 5 = .ok (.istore_n 2, 1) := by decide +kernel
theorem dX4_statesNamedAt_6 : decode cX4_statesNamedAt 6 = .ok (.aload_n 0, 1) := by decide +kernel
theorem dX4_statesNamedAt_7 : decode cX4_statesNamedAt 7 = .ok (.iload_n 1, 1) := by decide +kernel
theorem dX4_statesNamedAt_8 : decode cX4_statesNamedAt 8 = .ok (.invokevirtual 38, 3) := by decide +kernel
theorem dX4_statesNamedAt_11 : decode cX4_statesNamedAt 11 = .ok (.istore_n 3, 1) := by decide +kernel
theorem dX4_statesNamedAt_12 : decode cX4_statesNamedAt 12 = .ok (.iconst 1, 1) := by decide +kernel
theorem dX4_statesNamedAt_13 : decode cX4_statesNamedAt 13 = .ok (.iload_n 2, 1) := by decide +kernel
theorem dX4_statesNamedAt_14 : decode cX4_statesNamedAt 14 = .ok (.invokestatic 41, 3) := by decide +kernel
theorem dX4_statesNamedAt_17 : decode cX4_statesNamedAt 17 = .ok (.ishl, 1) := by decide +kernel
theorem dX4_statesNamedAt_18 : decode cX4_statesNamedAt 18 = .ok (.iconst 1, 1) := by decide +kernel
theorem dX4_statesNamedAt_19 : decode cX4_statesNamedAt 19 = .ok (.iload_n 2, 1) := by decide +kernel
theorem dX4_statesNamedAt_20 : decode cX4_statesNamedAt 20 = .ok (.invokestatic 44, 3) := by decide +kernel
theorem dX4_statesNamedAt_23 : decode cX4_statesNamedAt 23 = .ok (.ishl, 1) := by decide +kernel
theorem dX4_statesNamedAt_24 : decode cX4_statesNamedAt 24 = .ok (.ior, 1) := by decide +kernel
theorem dX4_statesNamedAt_25 : decode cX4_statesNamedAt 25 = .ok (.iconst 1, 1) := by decide +kernel
theorem dX4_statesNamedAt_26 : decode cX4_statesNamedAt 26 = .ok (.iload_n 3, 1) := by decide +kernel
theorem dX4_statesNamedAt_27 : decode cX4_statesNamedAt 27 = .ok (.invokestatic 41, 3) := by decide +kernel
theorem dX4_statesNamedAt_30 : decode cX4_statesNamedAt 30 = .ok (.ishl, 1) := by decide +kernel
theorem dX4_statesNamedAt_31 : decode cX4_statesNamedAt 31 = .ok (.ior, 1) := by decide +kernel
theorem dX4_statesNamedAt_32 : decode cX4_statesNamedAt 32 = .ok (.iconst 1, 1) := by decide +kernel
theorem dX4_statesNamedAt_33 : decode cX4_statesNamedAt 33 = .ok (.iload_n 3, 1) := by decide +kernel
theorem dX4_statesNamedAt_34 : decode cX4_statesNamedAt 34 = .ok (.invokestatic 44, 3) := by decide +kernel
theorem dX4_statesNamedAt_37 : decode cX4_statesNamedAt 37 = .ok (.ishl, 1) := by decide +kernel
theorem dX4_statesNamedAt_38 : decode cX4_statesNamedAt 38 = .ok (.ior, 1) := by decide +kernel
theorem dX4_statesNamedAt_39 : decode cX4_statesNamedAt 39 = .ok (.ireturn, 1) := by decide +kernel
theorem dX5_of_0 : decode cX5_of 0 = .ok (.iload_n 0, 1) := by decide +kernel
theorem dX5_of_1 : decode cX5_of 1 = .ok (.bipush 6, 2) := by decide +kernel
theorem dX5_of_3 : decode cX5_of 3 = .ok (.imul, 1) := by decide +kernel
theorem dX5_of_4 : decode cX5_of 4 = .ok (.iload_n 1, 1) := by decide +kernel
theorem dX5_of_5 : decode cX5_of 5 = .ok (.iadd, 1) := by decide +kernel
theorem dX5_of_6 : decode cX5_of 6 = .ok (.ireturn, 1) := by decide +kernel
theorem dX5_first_0 : decode cX5_first 0 = .ok (.iload_n 0, 1) := by decide +kernel
theorem dX5_first_1 : decode cX5_first 1 = .ok (.bipush 6, 2) := by decide +kernel
theorem dX5_first_3 : decode cX5_first 3 = .ok (.idiv, 1) := by decide +kernel
theorem dX5_first_4 : decode cX5_first 4 = .ok (.ireturn, 1) := by decide +kernel
theorem dX5_second_0 : decode cX5_second 0 = .ok (.iload_n 0, 1) := by decide +kernel
theorem dX5_second_1 : decode cX5_second 1 = .ok (.bipush 6, 2) := by decide +kernel
theorem dX5_second_3 : decode cX5_second 3 = .ok (.irem, 1) := by decide +kernel
theorem dX5_second_4 : decode cX5_second 4 = .ok (.ireturn, 1) := by decide +kernel
theorem dJ9_max_7cf53_0 : decode cJ9_max_7cf53 0 = .ok (.iload_n 0, 1) := by decide +kernel
theorem dJ9_max_7cf53_1 : decode cJ9_max_7cf53 1 = .ok (.iload_n 1, 1) := by decide +kernel
theorem dJ9_max_7cf53_2 : decode cJ9_max_7cf53 2 = .ok (.if_icmp .lt 7, 3) := by decide +kernel
theorem dJ9_max_7cf53_5 : decode cJ9_max_7cf53 5 = .ok (.iload_n 0, 1) := by decide +kernel
theorem dJ9_max_7cf53_6 : decode cJ9_max_7cf53 6 = .ok (.goto 4, 3) := by decide +kernel
theorem dJ9_max_7cf53_9 : decode cJ9_max_7cf53 9 = .ok (.iload_n 1, 1) := by decide +kernel
theorem dJ9_max_7cf53_10 : decode cJ9_max_7cf53 10 = .ok (.ireturn, 1) := by decide +kernel
theorem dJ7_fill_d0a16_0 : decode cJ7_fill_d0a16 0 = .ok (.iconst 0, 1) := by decide +kernel
theorem dJ7_fill_d0a16_1 : decode cJ7_fill_d0a16 1 = .ok (.istore_n 3, 1) := by decide +kernel
theorem dJ7_fill_d0a16_2 : decode cJ7_fill_d0a16 2 = .ok (.aload_n 0, 1) := by decide +kernel
theorem dJ7_fill_d0a16_3 : decode cJ7_fill_d0a16 3 = .ok (.arraylength, 1) := by decide +kernel
theorem dJ7_fill_d0a16_4 : decode cJ7_fill_d0a16 4 = .ok (.istore 4, 2) := by decide +kernel
theorem dJ7_fill_d0a16_6 : decode cJ7_fill_d0a16 6 = .ok (.iload_n 3, 1) := by decide +kernel
theorem dJ7_fill_d0a16_7 : decode cJ7_fill_d0a16 7 = .ok (.iload 4, 2) := by decide +kernel
theorem dJ7_fill_d0a16_9 : decode cJ7_fill_d0a16 9 = .ok (.if_icmp .ge 13, 3) := by decide +kernel
theorem dJ7_fill_d0a16_12 : decode cJ7_fill_d0a16 12 = .ok (.aload_n 0, 1) := by decide +kernel
theorem dJ7_fill_d0a16_13 : decode cJ7_fill_d0a16 13 = .ok (.iload_n 3, 1) := by decide +kernel
theorem dJ7_fill_d0a16_14 : decode cJ7_fill_d0a16 14 = .ok (.lload_n 1, 1) := by decide +kernel
theorem dJ7_fill_d0a16_15 : decode cJ7_fill_d0a16 15 = .ok (.lastore, 1) := by decide +kernel
theorem dJ7_fill_d0a16_16 : decode cJ7_fill_d0a16 16 = .ok (.iinc 3 1, 3) := by decide +kernel
theorem dJ7_fill_d0a16_19 : decode cJ7_fill_d0a16 19 = .ok (.goto (-13), 3) := by decide +kernel
theorem dJ7_fill_d0a16_22 : decode cJ7_fill_d0a16 22 = .ok (.return_, 1) := by decide +kernel
theorem dJ7_fill_53178_0 : decode cJ7_fill_53178 0 = .ok (.iconst 0, 1) := by decide +kernel
theorem dJ7_fill_53178_1 : decode cJ7_fill_53178 1 = .ok (.istore_n 2, 1) := by decide +kernel
theorem dJ7_fill_53178_2 : decode cJ7_fill_53178 2 = .ok (.aload_n 0, 1) := by decide +kernel
theorem dJ7_fill_53178_3 : decode cJ7_fill_53178 3 = .ok (.arraylength, 1) := by decide +kernel
theorem dJ7_fill_53178_4 : decode cJ7_fill_53178 4 = .ok (.istore_n 3, 1) := by decide +kernel
theorem dJ7_fill_53178_5 : decode cJ7_fill_53178 5 = .ok (.iload_n 2, 1) := by decide +kernel
theorem dJ7_fill_53178_6 : decode cJ7_fill_53178 6 = .ok (.iload_n 3, 1) := by decide +kernel
theorem dJ7_fill_53178_7 : decode cJ7_fill_53178 7 = .ok (.if_icmp .ge 13, 3) := by decide +kernel
theorem dJ7_fill_53178_10 : decode cJ7_fill_53178 10 = .ok (.aload_n 0, 1) := by decide +kernel
theorem dJ7_fill_53178_11 : decode cJ7_fill_53178 11 = .ok (.iload_n 2, 1) := by decide +kernel
theorem dJ7_fill_53178_12 : decode cJ7_fill_53178 12 = .ok (.iload_n 1, 1) := by decide +kernel
theorem dJ7_fill_53178_13 : decode cJ7_fill_53178 13 = .ok (.iastore, 1) := by decide +kernel
theorem dJ7_fill_53178_14 : decode cJ7_fill_53178 14 = .ok (.iinc 2 1, 3) := by decide +kernel
theorem dJ7_fill_53178_17 : decode cJ7_fill_53178 17 = .ok (.goto (-12), 3) := by decide +kernel
theorem dJ7_fill_53178_20 : decode cJ7_fill_53178 20 = .ok (.return_, 1) := by decide +kernel
