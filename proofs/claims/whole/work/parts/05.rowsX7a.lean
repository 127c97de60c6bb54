theorem dX7_init_0 : decode cX7_init 0 = .ok (.aload_n 0, 1) := by decide +kernel
theorem dX7_init_1 : decode cX7_init 1 = .ok (.invokespecial 1, 3) := by decide +kernel
theorem dX7_init_4 : decode cX7_init 4 = .ok (.aload_n 0, 1) := by decide +kernel
theorem dX7_init_5 : decode cX7_init 5 = .ok (.bipush 13, 2) := by decide +kernel
theorem dX7_init_7 : decode cX7_init 7 = .ok (.newarray .int, 2) := by decide +kernel
theorem dX7_init_9 : decode cX7_init 9 = .ok (.putfield 7, 3) := by decide +kernel
theorem dX7_init_12 : decode cX7_init 12 = .ok (.aload_n 0, 1) := by decide +kernel
theorem dX7_init_13 : decode cX7_init 13 = .ok (.bipush 13, 2) := by decide +kernel
theorem dX7_init_15 : decode cX7_init 15 = .ok (.newarray .int, 2) := by decide +kernel
theorem dX7_init_17 : decode cX7_init 17 = .ok (.putfield 13, 3) := by decide +kernel
theorem dX7_init_20 : decode cX7_init 20 = .ok (.aload_n 0, 1) := by decide +kernel
theorem dX7_init_21 : decode cX7_init 21 = .ok (.bipush 13, 2) := by decide +kernel
theorem dX7_init_23 : decode cX7_init 23 = .ok (.newarray .int, 2) := by decide +kernel
theorem dX7_init_25 : decode cX7_init 25 = .ok (.putfield 16, 3) := by decide +kernel
theorem dX7_init_28 : decode cX7_init 28 = .ok (.aload_n 0, 1) := by decide +kernel
theorem dX7_init_29 : decode cX7_init 29 = .ok (.bipush 13, 2) := by decide +kernel
theorem dX7_init_31 : decode cX7_init 31 = .ok (.newarray .int, 2) := by decide +kernel
theorem dX7_init_33 : decode cX7_init 33 = .ok (.putfield 19, 3) := by decide +kernel
theorem dX7_init_36 : decode cX7_init 36 = .ok (.aload_n 0, 1) := by decide +kernel
theorem dX7_init_37 : decode cX7_init 37 = .ok (.bipush 6, 2) := by decide +kernel
theorem dX7_init_39 : decode cX7_init 39 = .ok (.newarray .int, 2) := by decide +kernel
theorem dX7_init_41 : decode cX7_init 41 = .ok (.putfield 22, 3) := by decide +kernel
theorem dX7_init_44 : decode cX7_init 44 = .ok (.aload_n 0, 1) := by decide +kernel
theorem dX7_init_45 : decode cX7_init 45 = .ok (.bipush 6, 2) := by decide +kernel
theorem dX7_init_47 : decode cX7_init 47 = .ok (.newarray .int, 2) := by decide +kernel
theorem dX7_init_49 : decode cX7_init 49 = .ok (.putfield 25, 3) := by decide +kernel
theorem dX7_init_52 : decode cX7_init 52 = .ok (.aload_n 0, 1) := by decide +kernel
theorem dX7_init_53 : decode cX7_init 53 = .ok (.bipush 6, 2) := by decide +kernel
theorem dX7_init_55 : decode cX7_init 55 = .ok (.newarray .int, 2) := by decide +kernel
theorem dX7_init_57 : decode cX7_init 57 = .ok (.putfield 28, 3) := by decide +kernel
theorem dX7_init_60 : decode cX7_init 60 = .ok (.aload_n 0, 1) := by decide +kernel
theorem dX7_init_61 : decode cX7_init 61 = .ok (.bipush 36, 2) := by decide +kernel
theorem dX7_init_63 : decode cX7_init 63 = .ok (.newarray .int, 2) := by decide +kernel
theorem dX7_init_65 : decode cX7_init 65 = .ok (.putfield 31, 3) := by decide +kernel
theorem dX7_init_68 : decode cX7_init 68 = .ok (.aload_n 0, 1) := by decide +kernel
theorem dX7_init_69 : decode cX7_init 69 = .ok (.iconst 1, 1) := by decide +kernel
theorem dX7_init_70 : decode cX7_init 70 = .ok (.putfield 34, 3) := by decide +kernel
theorem dX7_init_73 : decode cX7_init 73 = .ok (.aload_n 0, 1) := by decide +kernel
theorem dX7_init_74 : decode cX7_init 74 = .ok (.sipush 2772, 3) := by decide +kernel
theorem dX7_init_77 : decode cX7_init 77 = .ok (.newarray .int, 2) := by decide +kernel
theorem dX7_init_79 : decode cX7_init 79 = .ok (.putfield 38, 3) := by decide +kernel
theorem dX7_init_82 : decode cX7_init 82 = .ok (.aload_n 0, 1) := by decide +kernel
theorem dX7_init_83 : decode cX7_init 83 = .ok (.sipush 462, 3) := by decide +kernel
theorem dX7_init_86 : decode cX7_init 86 = .ok (.newarray .int, 2) := by decide +kernel
theorem dX7_init_88 : decode cX7_init 88 = .ok (.putfield 41, 3) := by decide +kernel
theorem dX7_init_91 : decode cX7_init 91 = .ok (.aload_n 0, 1) := by decide +kernel
theorem dX7_init_92 : decode cX7_init 92 = .ok (.sipush 462, 3) := by decide +kernel
theorem dX7_init_95 : decode cX7_init 95 = .ok (.newarray .int, 2) := by decide +kernel
theorem dX7_init_97 : decode cX7_init 97 = .ok (.putfield 44, 3) := by decide +kernel
theorem dX7_init_100 : decode cX7_init 100 = .ok (.aload_n 0, 1) := by decide +kernel
theorem dX7_init_101 : decode cX7_init 101 = .ok (.sipush 5544, 3) := by decide +kernel
theorem dX7_init_104 : decode cX7_init 104 = .ok (.newarray .int, 2) := by decide +kernel
theorem dX7_init_106 : decode cX7_init 106 = .ok (.putfield 47, 3) := by decide +kernel
theorem dX7_init_109 : decode cX7_init 109 = .ok (.aload_n 0, 1) := by decide +kernel
theorem dX7_init_110 : decode cX7_init 110 = .ok (.sipush 462, 3) := by decide +kernel
theorem dX7_init_113 : decode cX7_init 113 = .ok (.newarray .int, 2) := by decide +kernel
theorem dX7_init_115 : decode cX7_init 115 = .ok (.putfield 50, 3) := by decide +kernel
theorem dX7_init_118 : decode cX7_init 118 = .ok (.aload_n 0, 1) := by decide +kernel
theorem dX7_init_119 : decode cX7_init 119 = .ok (.sipush 462, 3) := by decide +kernel
theorem dX7_init_122 : decode cX7_init 122 = .ok (.newarray .boolean, 2) := by decide +kernel
theorem dX7_init_124 : decode cX7_init 124 = .ok (.putfield 53, 3) := by decide +kernel
theorem dX7_init_127 : decode cX7_init 127 = .ok (.aload_n 0, 1) := by decide +kernel
theorem dX7_init_128 : decode cX7_init 128 = .ok (.sipush 462, 3) := by decide +kernel
theorem dX7_init_131 : decode cX7_init 131 = .ok (.newarray .int, 2) := by decide +kernel
theorem dX7_init_133 : decode cX7_init 133 = .ok (.putfield 57, 3) := by decide +kernel
theorem dX7_init_136 : decode cX7_init 136 = .ok (.aload_n 0, 1) := by decide +kernel
theorem dX7_init_137 : decode cX7_init 137 = .ok (.sipush 462, 3) := by decide +kernel
theorem dX7_init_140 : decode cX7_init 140 = .ok (.newarray .long, 2) := by decide +kernel
theorem dX7_init_142 : decode cX7_init 142 = .ok (.putfield 60, 3) := by decide +kernel
theorem dX7_init_145 : decode cX7_init 145 = .ok (.aload_n 0, 1) := by decide +kernel
theorem dX7_init_146 : decode cX7_init 146 = .ok (.sipush 462, 3) := by decide +kernel
theorem dX7_init_149 : decode cX7_init 149 = .ok (.newarray .long, 2) := by decide +kernel
theorem dX7_init_151 : decode cX7_init 151 = .ok (.putfield 64, 3) := by decide +kernel
theorem dX7_init_154 : decode cX7_init 154 = .ok (.return_, 1) := by decide +kernel
theorem dX7_within_0 : decode cX7_within 0 = .ok (.iload_n 0, 1) := by decide +kernel
theorem dX7_within_1 : decode cX7_within 1 = .ok (.iload_n 1, 1) := by decide +kernel
theorem dX7_within_2 : decode cX7_within 2 = .ok (.if_icmp .lt 12, 3) := by decide +kernel
theorem dX7_within_5 : decode cX7_within 5 = .ok (.iload_n 0, 1) := by decide +kernel
theorem dX7_within_6 : decode cX7_within 6 = .ok (.iload_n 2, 1) := by decide +kernel
theorem dX7_within_7 : decode cX7_within 7 = .ok (.if_icmp .gt 7, 3) := by decide +kernel
theorem dX7_within_10 : decode cX7_within 10 = .ok (.iconst 1, 1) := by decide +kernel
theorem dX7_within_11 : decode cX7_within 11 = .ok (.goto 4, 3) := by decide +kernel
theorem dX7_within_14 : decode cX7_within 14 = .ok (.iconst 0, 1) := by decide +kernel
theorem dX7_within_15 : decode cX7_within 15 = .ok (.ireturn, 1) := by decide +kernel
set_option maxRecDepth 20000 in
theorem ggX7_isState_X7_within : GoodIn wsX7_isState wsX7_within := goodIn_r _ [4] (by decide +kernel) (by decide +kernel)
set_option maxRecDepth 20000 in
theorem gX7_isState_X7_within : GoodIn wsX7_isState (va_wsS RX7 67 yX7_within wsX7_within) := goodIn_app (goodIn_of _ (by decide +kernel)) ggX7_isState_X7_within
theorem dX7_isState_0 : decode cX7_isState 0 = .ok (.iload_n 0, 1) := by decide +kernel
theorem dX7_isState_1 : decode cX7_isState 1 = .ok (.iconst 0, 1) := by decide +kernel
theorem dX7_isState_2 : decode cX7_isState 2 = .ok (.iconst 5, 1) := by decide +kernel
theorem dX7_isState_3 : decode cX7_isState 3 = .ok (.invokestatic 67, 3) := by decide +kernel
theorem dX7_isState_6 : decode cX7_isState 6 = .ok (.ireturn, 1) := by decide +kernel
theorem dX7_ruleFor_0 : decode cX7_ruleFor 0 = .ok (.iconst 0, 1) := by decide +kernel
theorem dX7_ruleFor_1 : decode cX7_ruleFor 1 = .ok (.istore_n 3, 1) := by decide +kernel
theorem dX7_ruleFor_2 : decode cX7_ruleFor 2 = .ok (.iload_n 3, 1) := by decide +kernel
theorem dX7_ruleFor_3 : decode cX7_ruleFor 3 = .ok (.aload_n 0, 1) := by decide +kernel
theorem dX7_ruleFor_4 : decode cX7_ruleFor 4 = .ok (.getfield 71, 3) := by decide +kernel
theorem dX7_ruleFor_7 : decode cX7_ruleFor 7 = .ok (.if_icmp .ge 31, 3) := by decide +kernel
theorem dX7_ruleFor_10 : decode cX7_ruleFor 10 = .ok (.aload_n 0, 1) := by decide +kernel
theorem dX7_ruleFor_11 : decode cX7_ruleFor 11 = .ok (.getfield 7, 3) := by decide +kernel
theorem dX7_ruleFor_14 : decode cX7_ruleFor 14 = .ok (.iload_n 3, 1) := by decide +kernel
theorem dX7_ruleFor_15 : decode cX7_ruleFor 15 = .ok (.iaload, 1) := by decide +kernel
theorem dX7_ruleFor_16 : decode cX7_ruleFor 16 = .ok (.iload_n 1, 1) := by decide +kernel
theorem dX7_ruleFor_17 : decode cX7_ruleFor 17 = .ok (.if_icmp .ne 15, 3) := by decide +kernel
theorem dX7_ruleFor_20 : decode cX7_ruleFor 20 = .ok (.aload_n 0, 1) := by decide +kernel
theorem dX7_ruleFor_21 : decode cX7_ruleFor 21 = .ok (.getfield 13, 3) := by decide +kernel
theorem dX7_ruleFor_24 : decode cX7_ruleFor 24 = .ok (.iload_n 3, 1) := by decide +kernel
theorem dX7_ruleFor_25 : decode cX7_ruleFor 25 = .ok (.iaload, 1) := by decide +kernel
theorem dX7_ruleFor_26 : decode cX7_ruleFor 26 = .ok (.iload_n 2, 1) := by decide +kernel
theorem dX7_ruleFor_27 : decode cX7_ruleFor 27 = .ok (.if_icmp .ne 5, 3) := by decide +kernel
theorem dX7_ruleFor_30 : decode cX7_ruleFor 30 = .ok (.iload_n 3, 1) := by decide +kernel
theorem dX7_ruleFor_31 : decode cX7_ruleFor 31 = .ok (.ireturn, 1) := by decide +kernel
theorem dX7_ruleFor_32 : decode cX7_ruleFor 32 = .ok (.iinc 3 1, 3) := by decide +kernel
theorem dX7_ruleFor_35 : decode cX7_ruleFor 35 = .ok (.goto (-33), 3) := by decide +kernel
theorem dX7_ruleFor_38 : decode cX7_ruleFor 38 = .ok (.bipush (-9), 2) := by decide +kernel
theorem dX7_ruleFor_40 : decode cX7_ruleFor 40 = .ok (.ireturn, 1) := by decide +kernel
theorem dX7_goes_0 : decode cX7_goes 0 = .ok (.aload_n 0, 1) := by decide +kernel
theorem dX7_goes_1 : decode cX7_goes 1 = .ok (.dup, 1) := by decide +kernel
theorem dX7_goes_2 : decode cX7_goes 2 = .ok (.getfield 71, 3) := by decide +kernel
theorem dX7_goes_5 : decode cX7_goes 5 = .ok (.iconst 1, 1) := by decide +kernel
theorem dX7_goes_6 : decode cX7_goes 6 = .ok (.isub, 1) := by decide +kernel
theorem dX7_goes_7 : decode cX7_goes 7 = .ok (.putfield 71, 3) := by decide +kernel
theorem dX7_goes_10 : decode cX7_goes 10 = .ok (.iload_n 1, 1) := by decide +kernel
theorem dX7_goes_11 : decode cX7_goes 11 = .ok (.istore_n 2, 1) := by decide +kernel
theorem dX7_goes_12 : decode cX7_goes 12 = .ok (.iload_n 2, 1) := by decide +kernel
theorem dX7_goes_13 : decode cX7_goes 13 = .ok (.aload_n 0, 1) := by decide +kernel
theorem dX7_goes_14 : decode cX7_goes 14 = .ok (.getfield 71, 3) := by decide +kernel
theorem dX7_goes_17 : decode cX7_goes 17 = .ok (.if_icmp .ge 65, 3) := by decide +kernel
theorem dX7_goes_20 : decode cX7_goes 20 = .ok (.aload_n 0, 1) := by decide +kernel
theorem dX7_goes_21 : decode cX7_goes 21 = .ok (.getfield 7, 3) := by decide +kernel
theorem dX7_goes_24 : decode cX7_goes 24 = .ok (.iload_n 2, 1) := by decide +kernel
theorem dX7_goes_25 : decode cX7_goes 25 = .ok (.aload_n 0, 1) := by decide +kernel
theorem dX7_goes_26 : decode cX7_goes 26 = .ok (.getfield 7, 3) := by decide +kernel
theorem dX7_goes_29 : decode cX7_goes 29 = .ok (.iload_n 2, 1) := by decide +kernel
theorem dX7_goes_30 : decode cX7_goes 30 = .ok (.iconst 1, 1) := by decide +kernel
theorem dX7_goes_31 : decode cX7_goes 31 = .ok (.iadd, 1) := by decide +kernel
theorem dX7_goes_32 : decode cX7_goes 32 = .ok (.iaload, 1) := by decide +kernel
theorem dX7_goes_33 : decode cX7_goes 33 = .ok (.iastore, 1) := by decide +kernel
theorem dX7_goes_34 : decode cX7_goes 34 = .ok (.aload_n 0, 1) := by decide +kernel
theorem dX7_goes_35 : decode cX7_goes 35 = .ok (.getfield 13, 3) := by decide +kernel
theorem dX7_goes_38 : decode cX7_goes 38 = .ok (.iload_n 2, 1) := by decide +kernel
theorem dX7_goes_39 : decode cX7_goes 39 = .ok (.aload_n 0, 1) := by decide +kernel
theorem dX7_goes_40 : decode cX7_goes 40 = .ok (.getfield 13, 3) := by decide +kernel
theorem dX7_goes_43 : decode cX7_goes 43 = .ok (.iload_n 2, 1) := by decide +kernel
theorem dX7_goes_44 : decode cX7_goes 44 = .ok (.iconst 1, 1) := by decide +kernel
theorem dX7_goes_45 : decode cX7_goes 45 = .ok (.iadd, 1) := by decide +kernel
theorem dX7_goes_46 : decode cX7_goes 46 = .ok (.iaload, 1) := by decide +kernel
theorem dX7_goes_47 : decode cX7_goes 47 = .ok (.iastore, 1) := by decide +kernel
theorem dX7_goes_48 : decode cX7_goes 48 = .ok (.aload_n 0, 1) := by decide +kernel
theorem dX7_goes_49 : decode cX7_goes 49 = .ok (.getfield 16, 3) := by decide +kernel
theorem dX7_goes_52 : decode cX7_goes 52 = .ok (.iload_n 2, 1) := by decide +kernel
theorem dX7_goes_53 : decode cX7_goes 53 = .ok (.aload_n 0, 1) := by decide +kernel
theorem dX7_goes_54 : decode cX7_goes 54 = .ok (.getfield 16, 3) := by decide +kernel
theorem dX7_goes_57 : decode cX7_goes 57 = .ok (.iload_n 2, 1) := by decide +kernel
theorem dX7_goes_58 : decode cX7_goes 58 = .ok (.iconst 1, 1) := by decide +kernel
theorem dX7_goes_59 : decode cX7_goes 59 = .ok (.iadd, 1) := by decide +kernel
theorem dX7_goes_60 : decode cX7_goes 60 = .ok (.iaload, 1) := by decide +kernel
theorem dX7_goes_61 : decode cX7_goes 61 = .ok (.iastore, 1) := by decide +kernel
theorem dX7_goes_62 : decode cX7_goes 62 = .ok (.aload_n 0, 1) := by decide +kernel
theorem dX7_goes_63 : decode cX7_goes 63 = .ok (.getfield 19, 3) := by decide +kernel
theorem dX7_goes_66 : decode cX7_goes 66 = .ok (.iload_n 2, 1) := by decide +kernel
theorem dX7_goes_67 : decode cX7_goes 67 = .ok (.aload_n 0, 1) := by decide +kernel
theorem dX7_goes_68 : decode cX7_goes 68 = .ok (.getfield 19, 3) := by decide +kernel
theorem dX7_goes_71 : decode cX7_goes 71 = .ok (.iload_n 2, 1) := by decide +kernel
theorem dX7_goes_72 : decode cX7_goes 72 = .ok (.iconst 1, 1) := by decide +kernel
theorem dX7_goes_73 : decode cX7_goes 73 = .ok (.iadd, 1) := by decide +kernel
theorem dX7_goes_74 : decode cX7_goes 74 = .ok (.iaload, 1) := by decide +kernel
theorem dX7_goes_75 : decode cX7_goes 75 = .ok (.iastore, 1) := by decide +kernel
theorem dX7_goes_76 : decode cX7_goes 76 = .ok (.iinc 2 1, 3) := by decide +kernel
theorem dX7_goes_79 : decode cX7_goes 79 = .ok (.goto (-67), 3) := by decide +kernel
theorem dX7_goes_82 : decode cX7_goes 82 = .ok (.return_, 1) := by decide +kernel
set_option maxRecDepth 20000 in
theorem ggX7_comes_X7_ruleFor : GoodIn wsX7_comes wsX7_ruleFor := goodIn_r _ [10, 1, 2, 3, 15, 16, 17, 18, 19, 20, 21, 22, 23, 24, 25, 26, 27, 28, 29, 30, 31, 32, 33, 34, 35, 36, 37] (by decide +kernel) (by decide +kernel)
set_option maxRecDepth 20000 in
theorem gX7_comes_X7_ruleFor : GoodIn wsX7_comes (wsV RX7 74 RX7 yX7_ruleFor wsX7_ruleFor) := goodIn_app (goodIn_of _ (by decide +kernel)) ggX7_comes_X7_ruleFor
set_option maxRecDepth 20000 in
theorem ggX7_comes_X7_goes : GoodIn wsX7_comes wsX7_goes := goodIn_r _ [14, 1, 2, 3, 4, 5, 15, 16, 17, 18, 19, 20, 21, 22, 23, 24, 25, 26, 27, 28, 29, 30, 31, 32, 33, 34, 35, 36, 37] (by decide +kernel) (by decide +kernel)
set_option maxRecDepth 20000 in
theorem gX7_comes_X7_goes : GoodIn wsX7_comes (wsV RX7 78 RX7 yX7_goes wsX7_goes) := goodIn_app (goodIn_of _ (by decide +kernel)) ggX7_comes_X7_goes
theorem dX7_comes_0 : decode cX7_comes 0 = .ok (.aload_n 0, 1) := by decide +kernel
theorem dX7_comes_1 : decode cX7_comes 1 = .ok (.iload_n 1, 1) := by decide +kernel
theorem dX7_comes_2 : decode cX7_comes 2 = .ok (.iload_n 2, 1) := by decide +kernel
theorem dX7_comes_3 : decode cX7_comes 3 = .ok (.invokevirtual 74, 3) := by decide +kernel
theorem dX7_comes_6 : decode cX7_comes 6 = .ok (.istore 5, 2) := by decide +kernel
theorem dX7_comes_8 : decode cX7_comes 8 = .ok (.iload 5, 2) := by decide +kernel
theorem dX7_comes_10 : decode cX7_comes 10 = .ok (.bipush (-9), 2) := by decide +kernel
theorem dX7_comes_12 : decode cX7_comes 12 = .ok (.if_icmp .eq 12, 3) := by decide +kernel
theorem dX7_comes_15 : decode cX7_comes 15 = .ok (.aload_n 0, 1) := by decide +kernel
theorem dX7_comes_16 : decode cX7_comes 16 = .ok (.iload 5, 2) := by decide +kernel
theorem dX7_comes_18 : decode cX7_comes 18 = .ok (.invokevirtual 78, 3) := by decide +kernel
theorem dX7_comes_21 : decode cX7_comes 21 = .ok (.goto 17, 3) := by decide +kernel
theorem dX7_comes_24 : decode cX7_comes 24 = .ok (.aload_n 0, 1) := by decide +kernel
theorem dX7_comes_25 : decode cX7_comes 25 = .ok (.getfield 71, 3) := by decide +kernel
theorem dX7_comes_28 : decode cX7_comes 28 = .ok (.bipush 12, 2) := by decide +kernel
theorem dX7_comes_30 : decode cX7_comes 30 = .ok (.if_icmp .ne 8, 3) := by decide +kernel
theorem dX7_comes_33 : decode cX7_comes 33 = .ok (.aload_n 0, 1) := by decide +kernel
theorem dX7_comes_34 : decode cX7_comes 34 = .ok (.iconst 0, 1) := by decide +kernel
theorem dX7_comes_35 : decode cX7_comes 35 = .ok (.invokevirtual 78, 3) := by decide +kernel
theorem dX7_comes_38 : decode cX7_comes 38 = .ok (.aload_n 0, 1) := by decide +kernel
theorem dX7_comes_39 : decode cX7_comes 39 = .ok (.getfield 7, 3) := by decide +kernel
theorem dX7_comes_42 : decode cX7_comes 42 = .ok (.aload_n 0, 1) := by decide +kernel
theorem dX7_comes_43 : decode cX7_comes 43 = .ok (.getfield 71, 3) := by decide +kernel
theorem dX7_comes_46 : decode cX7_comes 46 = .ok (.iload_n 1, 1) := by decide +kernel
theorem dX7_comes_47 : decode cX7_comes 47 = .ok (.iastore, 1) := by decide +kernel
theorem dX7_comes_48 : decode cX7_comes 48 = .ok (.aload_n 0, 1) := by decide +kernel
theorem dX7_comes_49 : decode cX7_comes 49 = .ok (.getfield 13, 3) := by decide +kernel
theorem dX7_comes_52 : decode cX7_comes 52 = .ok (.aload_n 0, 1) := by decide +kernel
theorem dX7_comes_53 : decode cX7_comes 53 = .ok (.getfield 71, 3) := by decide +kernel
theorem dX7_comes_56 : decode cX7_comes 56 = .ok (.iload_n 2, 1) := by decide +kernel
theorem dX7_comes_57 : decode cX7_comes 57 = .ok (.iastore, 1) := by decide +kernel
theorem dX7_comes_58 : decode cX7_comes 58 = .ok (.aload_n 0, 1) := by decide +kernel
theorem dX7_comes_59 : decode cX7_comes 59 = .ok (.getfield 16, 3) := by decide +kernel
theorem dX7_comes_62 : decode cX7_comes 62 = .ok (.aload_n 0, 1) := by decide +kernel
theorem dX7_comes_63 : decode cX7_comes 63 = .ok (.getfield 71, 3) := by decide +kernel
theorem dX7_comes_66 : decode cX7_comes 66 = .ok (.iload_n 3, 1) := by decide +kernel
theorem dX7_comes_67 : decode cX7_comes 67 = .ok (.iastore, 1) := by decide +kernel
theorem dX7_comes_68 : decode cX7_comes 68 = .ok (.aload_n 0, 1) := by decide +kernel
theorem dX7_comes_69 : decode cX7_comes 69 = .ok (.getfield 19, 3) := by decide +kernel
theorem dX7_comes_72 : decode cX7_comes 72 = .ok (.aload_n 0, 1) := by decide +kernel
theorem dX7_comes_73 : decode cX7_comes 73 = .ok (.getfield 71, 3) := by decide +kernel
theorem dX7_comes_76 : decode cX7_comes 76 = .ok (.iload 4, 2) := by decide +kernel
theorem dX7_comes_78 : decode cX7_comes 78 = .ok (.iastore, 1) := by decide +kernel
theorem dX7_comes_79 : decode cX7_comes 79 = .ok (.aload_n 0, 1) := by decide +kernel
theorem dX7_comes_80 : decode cX7_comes 80 = .ok (.dup, 1) := by decide +kernel
theorem dX7_comes_81 : decode cX7_comes 81 = .ok (.getfield 71, 3) := by decide +kernel
theorem dX7_comes_84 : decode cX7_comes 84 = .ok (.iconst 1, 1) := by decide +kernel
theorem dX7_comes_85 : decode cX7_comes 85 = .ok (.iadd, 1) := by decide +kernel
theorem dX7_comes_86 : decode cX7_comes 86 = .ok (.putfield 71, 3) := by decide +kernel
theorem dX7_comes_89 : decode cX7_comes 89 = .ok (.return_, 1) := by decide +kernel
set_option maxRecDepth 20000 in
theorem ggX7_rule_X7_isState : GoodIn wsX7_rule wsX7_isState := goodIn_r _ [5, 6, 7, 4, 8] (by decide +kernel) (by decide +kernel)
set_option maxRecDepth 20000 in
theorem gX7_rule_X7_isState : GoodIn wsX7_rule (va_wsS RX7 82 yX7_isState wsX7_isState) := goodIn_app (goodIn_of _ (by decide +kernel)) ggX7_rule_X7_isState
set_option maxRecDepth 20000 in
theorem ggX7_rule_X7_comes : GoodIn wsX7_rule wsX7_comes := goodIn_r _ [12, 1, 13, 14, 15, 16, 17, 18, 19, 4, 20, 21, 22, 23, 24, 25, 26, 27, 28, 29, 30, 31, 32, 33, 34, 35, 36, 37, 38, 39, 40, 41, 42, 43, 44, 45, 46, 47] (by decide +kernel) (by decide +kernel)
set_option maxRecDepth 20000 in
theorem gX7_rule_X7_comes : GoodIn wsX7_rule (wsV RX7 86 RX7 yX7_comes wsX7_comes) := goodIn_app (goodIn_of _ (by decide +kernel)) ggX7_rule_X7_comes
theorem dX7_rule_0 : decode cX7_rule 0 = .ok (.iload_n 1, 1) := by decide +kernel
theorem dX7_rule_1 : decode cX7_rule 1 = .ok (.invokestatic 82, 3) := by decide +kernel
theorem dX7_rule_4 : decode cX7_rule 4 = .ok (.ifCond .eq 25, 3) := by decide +kernel
theorem dX7_rule_7 : decode cX7_rule 7 = .ok (.iload_n 2, 1) := by decide +kernel
theorem dX7_rule_8 : decode cX7_rule 8 = .ok (.invokestatic 82, 3) := by decide +kernel
theorem dX7_rule_11 : decode cX7_rule 11 = .ok (.ifCond .eq 18, 3) := by decide +kernel
theorem dX7_rule_14 : decode cX7_rule 14 = .ok (.iload_n 3, 1) := by decide +kernel
theorem dX7_rule_15 : decode cX7_rule 15 = .ok (.invokestatic 82, 3) := by decide +kernel
theorem dX7_rule_18 : decode cX7_rule 18 = .ok (.ifCond .eq 11, 3) := by decide +kernel
theorem dX7_rule_21 : decode cX7_rule 21 = .ok (.iload 4, 2) := by decide +kernel
theorem dX7_rule_23 : decode cX7_rule 23 = .ok (.invokestatic 82, 3) := by decide +kernel
theorem dX7_rule_26 : decode cX7_rule 26 = .ok (.ifCond .ne 5, 3) := by decide +kernel
theorem dX7_rule_29 : decode cX7_rule 29 = .ok (.iconst (-1), 1) := by decide +kernel
theorem dX7_rule_30 : decode cX7_rule 30 = .ok (.ireturn, 1) := by decide +kernel
theorem dX7_rule_31 : decode cX7_rule 31 = .ok (.aload_n 0, 1) := by decide +kernel
theorem dX7_rule_32 : decode cX7_rule 32 = .ok (.iload_n 1, 1) := by decide +kernel
theorem dX7_rule_33 : decode cX7_rule 33 = .ok (.iload_n 2, 1) := by decide +kernel
theorem dX7_rule_34 : decode cX7_rule 34 = .ok (.iload_n 3, 1) := by decide +kernel
theorem dX7_rule_35 : decode cX7_rule 35 = .ok (.iload 4, 2) := by decide +kernel
theorem dX7_rule_37 : decode cX7_rule 37 = .ok (.invokevirtual 86, 3) := by decide +kernel
theorem dX7_rule_40 : decode cX7_rule 40 = .ok (.aload_n 0, 1) := by decide +kernel
theorem dX7_rule_41 : decode cX7_rule 41 = .ok (.getfield 71, 3) := by decide +kernel
theorem dX7_rule_44 : decode cX7_rule 44 = .ok (.ireturn, 1) := by decide +kernel
set_option maxRecDepth 20000 in
theorem ggX7_unrule_X7_isState : GoodIn wsX7_unrule wsX7_isState := goodIn_r _ [5, 6, 7, 4, 8] (by decide +kernel) (by decide +kernel)
set_option maxRecDepth 20000 in
theorem gX7_unrule_X7_isState : GoodIn wsX7_unrule (va_wsS RX7 82 yX7_isState wsX7_isState) := goodIn_app (goodIn_of _ (by decide +kernel)) ggX7_unrule_X7_isState
set_option maxRecDepth 20000 in
theorem ggX7_unrule_X7_ruleFor : GoodIn wsX7_unrule wsX7_ruleFor := goodIn_r _ [12, 1, 13, 14, 21, 22, 23, 24, 25, 26, 27, 28, 29, 30, 31, 32, 33, 34, 35, 36, 37, 38, 39, 40, 41, 42, 43] (by decide +kernel) (by decide +kernel)
set_option maxRecDepth 20000 in
theorem gX7_unrule_X7_ruleFor : GoodIn wsX7_unrule (wsV RX7 74 RX7 yX7_ruleFor wsX7_ruleFor) := goodIn_app (goodIn_of _ (by decide +kernel)) ggX7_unrule_X7_ruleFor
set_option maxRecDepth 20000 in
theorem ggX7_unrule_X7_goes : GoodIn wsX7_unrule wsX7_goes := goodIn_r _ [18, 1, 13, 14, 19, 20, 21, 22, 23, 24, 25, 26, 27, 28, 29, 30, 31, 32, 33, 34, 35, 36, 37, 38, 39, 40, 41, 42, 43] (by decide +kernel) (by decide +kernel)
set_option maxRecDepth 20000 in
theorem gX7_unrule_X7_goes : GoodIn wsX7_unrule (wsV RX7 78 RX7 yX7_goes wsX7_goes) := goodIn_app (goodIn_of _ (by decide +kernel)) ggX7_unrule_X7_goes
theorem dX7_unrule_0 : decode cX7_unrule 0 = .ok (.iload_n 1, 1) := by decide +kernel
theorem dX7_unrule_1 : decode cX7_unrule 1 = .ok (.invokestatic 82, 3) := by decide +kernel
theorem dX7_unrule_4 : decode cX7_unrule 4 = .ok (.ifCond .eq 10, 3) := by decide +kernel
theorem dX7_unrule_7 : decode cX7_unrule 7 = .ok (.iload_n 2, 1) := by decide +kernel
theorem dX7_unrule_8 : decode cX7_unrule 8 = .ok (.invokestatic 82, 3) := by decide +kernel
theorem dX7_unrule_11 : decode cX7_unrule 11 = .ok (.ifCond .ne 5, 3) := by decide +kernel
theorem dX7_unrule_14 : decode cX7_unrule 14 = .ok (.iconst (-1), 1) := by decide +kernel
theorem dX7_unrule_15 : decode cX7_unrule 15 = .ok (.ireturn, 1) := by decide +kernel
theorem dX7_unrule_16 : decode cX7_unrule 16 = .ok (.aload_n 0, 1) := by decide +kernel
theorem dX7_unrule_17 : decode cX7_unrule 17 = .ok (.iload_n 1, 1) := by decide +kernel
theorem dX7_unrule_18 : decode cX7_unrule 18 = .ok (.iload_n 2, 1) := by decide +kernel
theorem dX7_unrule_19 : decode cX7_unrule 19 = .ok (.invokevirtual 74, 3) := by decide +kernel
theorem dX7_unrule_22 : decode cX7_unrule 22 = .ok (.istore_n 3, 1) := by decide +kernel
theorem dX7_unrule_23 : decode cX7_unrule 23 = .ok (.iload_n 3, 1) := by decide +kernel
theorem dX7_unrule_24 : decode cX7_unrule 24 = .ok (.bipush (-9), 2) := by decide +kernel
theorem dX7_unrule_26 : decode cX7_unrule 26 = .ok (.if_icmp .ne 6, 3) := by decide +kernel
theorem dX7_unrule_29 : decode cX7_unrule 29 = .ok (.bipush (-3), 2) := by decide +kernel
theorem dX7_unrule_31 : decode cX7_unrule 31 = .ok (.ireturn, 1) := by decide +kernel
theorem dX7_unrule_32 : decode cX7_unrule 32 = .ok (.aload_n 0, 1) := by decide +kernel
theorem dX7_unrule_33 : decode cX7_unrule 33 = .ok (.iload_n 3, 1) := by decide +kernel
theorem dX7_unrule_34 : decode cX7_unrule 34 = .ok (.invokevirtual 78, 3) := by decide +kernel
theorem dX7_unrule_37 : decode cX7_unrule 37 = .ok (.aload_n 0, 1) := by decide +kernel
theorem dX7_unrule_38 : decode cX7_unrule 38 = .ok (.getfield 71, 3) := by decide +kernel
theorem dX7_unrule_41 : decode cX7_unrule 41 = .ok (.ireturn, 1) := by decide +kernel
set_option maxRecDepth 20000 in
theorem ggX7_preset_X7_within : GoodIn wsX7_preset wsX7_within := goodIn_r _ [5] (by decide +kernel) (by decide +kernel)
set_option maxRecDepth 20000 in
theorem gX7_preset_X7_within : GoodIn wsX7_preset (va_wsS RX7 67 yX7_within wsX7_within) := goodIn_app (goodIn_of _ (by decide +kernel)) ggX7_preset_X7_within
set_option maxRecDepth 20000 in
theorem ggX7_preset_X7_comes : GoodIn wsX7_preset wsX7_comes := goodIn_r _ [9, 1, 10, 11, 12, 13, 14, 15, 16, 4, 17, 18, 19, 20, 21, 22, 23, 24, 25, 26, 27, 28, 29, 30, 31, 32, 33, 34, 35, 36, 37, 38, 39, 40, 41, 42, 43, 44] (by decide +kernel) (by decide +kernel)
set_option maxRecDepth 20000 in
theorem gX7_preset_X7_comes : GoodIn wsX7_preset (wsV RX7 86 RX7 yX7_comes wsX7_comes) := goodIn_app (goodIn_of _ (by decide +kernel)) ggX7_preset_X7_comes
theorem dX7_preset_0 : decode cX7_preset 0 = .ok (.iload_n 1, 1) := by decide +kernel
theorem dX7_preset_1 : decode cX7_preset 1 = .ok (.iconst 0, 1) := by decide +kernel
theorem dX7_preset_2 : decode cX7_preset 2 = .ok (.iconst 2, 1) := by decide +kernel
theorem dX7_preset_3 : decode cX7_preset 3 = .ok (.invokestatic 67, 3) := by decide +kernel
theorem dX7_preset_6 : decode cX7_preset 6 = .ok (.ifCond .ne 6, 3) := by decide +kernel
theorem dX7_preset_9 : decode cX7_preset 9 = .ok (.bipush (-2), 2) := by decide +kernel
theorem dX7_preset_11 : decode cX7_preset 11 = .ok (.ireturn, 1) := by decide +kernel
theorem dX7_preset_12 : decode cX7_preset 12 = .ok (.aload_n 0, 1) := by decide +kernel
theorem dX7_preset_13 : decode cX7_preset 13 = .ok (.iconst 0, 1) := by decide +kernel
theorem dX7_preset_14 : decode cX7_preset 14 = .ok (.putfield 71, 3) := by decide +kernel
theorem dX7_preset_17 : decode cX7_preset 17 = .ok (.iload_n 1, 1) := by decide +kernel
theorem dX7_preset_18 : decode cX7_preset 18 = .ok (.ifCond .ne 14, 3) := by decide +kernel
theorem dX7_preset_21 : decode cX7_preset 21 = .ok (.aload_n 0, 1) := by decide +kernel
theorem dX7_preset_22 : decode cX7_preset 22 = .ok (.iconst 0, 1) := by decide +kernel
theorem dX7_preset_23 : decode cX7_preset 23 = .ok (.iconst 0, 1) := by decide +kernel
theorem dX7_preset_24 : decode cX7_preset 24 = .ok (.iconst 0, 1) := by decide +kernel
theorem dX7_preset_25 : decode cX7_preset 25 = .ok (.iconst 1, 1) := by decide +kernel
theorem dX7_preset_26 : decode cX7_preset 26 = .ok (.invokevirtual 86, 3) := by decide +kernel
theorem dX7_preset_29 : decode cX7_preset 29 = .ok (.goto 107, 3) := by decide +kernel
theorem dX7_preset_32 : decode cX7_preset 32 = .ok (.iload_n 1, 1) := by decide +kernel
theorem dX7_preset_33 : decode cX7_preset 33 = .ok (.iconst 1, 1) := by decide +kernel
theorem dX7_preset_34 : decode cX7_preset 34 = .ok (.if_icmp .ne 54, 3) := by decide +kernel
theorem dX7_preset_37 : decode cX7_preset 37 = .ok (.aload_n 0, 1) := by decide +kernel
theorem dX7_preset_38 : decode cX7_preset 38 = .ok (.iconst 1, 1) := by decide +kernel
theorem dX7_preset_39 : decode cX7_preset 39 = .ok (.iconst 0, 1) := by decide +kernel
theorem dX7_preset_40 : decode cX7_preset 40 = .ok (.iconst 3, 1) := by decide +kernel
theorem dX7_preset_41 : decode cX7_preset 41 = .ok (.iconst 2, 1) := by decide +kernel
theorem dX7_preset_42 : decode cX7_preset 42 = .ok (.invokevirtual 86, 3) := by decide +kernel
theorem dX7_preset_45 : decode cX7_preset 45 = .ok (.aload_n 0, 1) := by decide +kernel
theorem dX7_preset_46 : decode cX7_preset 46 = .ok (.iconst 0, 1) := by decide +kernel
theorem dX7_preset_47 : decode cX7_preset 47 = .ok (.iconst 1, 1) := by decide +kernel
theorem dX7_preset_48 : decode cX7_preset 48 = .ok (.iconst 2, 1) := by decide +kernel
theorem dX7_preset_49 : decode cX7_preset 49 = .ok (.iconst 3, 1) := by decide +kernel
theorem dX7_preset_50 : decode cX7_preset 50 = .ok (.invokevirtual 86, 3) := by decide +kernel
theorem dX7_preset_53 : decode cX7_preset 53 = .ok (.aload_n 0, 1) := by decide +kernel
theorem dX7_preset_54 : decode cX7_preset 54 = .ok (.iconst 1, 1) := by decide +kernel
theorem dX7_preset_55 : decode cX7_preset 55 = .ok (.iconst 2, 1) := by decide +kernel
theorem dX7_preset_56 : decode cX7_preset 56 = .ok (.iconst 1, 1) := by decide +kernel
theorem dX7_preset_57 : decode cX7_preset 57 = .ok (.iconst 3, 1) := by decide +kernel
theorem dX7_preset_58 : decode cX7_preset 58 = .ok (.invokevirtual 86, 3) := by decide +kernel
theorem dX7_preset_61 : decode cX7_preset 61 = .ok (.aload_n 0, 1) := by decide +kernel
theorem dX7_preset_62 : decode cX7_preset 62 = .ok (.iconst 2, 1) := by decide +kernel
theorem dX7_preset_63 : decode cX7_preset 63 = .ok (.iconst 1, 1) := by decide +kernel
theorem dX7_preset_64 : decode cX7_preset 64 = .ok (.iconst 3, 1) := by decide +kernel
theorem dX7_preset_65 : decode cX7_preset 65 = .ok (.iconst 1, 1) := by decide +kernel
theorem dX7_preset_66 : decode cX7_preset 66 = .ok (.invokevirtual 86, 3) := by decide +kernel
theorem dX7_preset_69 : decode cX7_preset 69 = .ok (.aload_n 0, 1) := by decide +kernel
theorem dX7_preset_70 : decode cX7_preset 70 = .ok (.iconst 0, 1) := by decide +kernel
theorem dX7_preset_71 : decode cX7_preset 71 = .ok (.iconst 3, 1) := by decide +kernel
theorem dX7_preset_72 : decode cX7_preset 72 = .ok (.iconst 0, 1) := by decide +kernel
theorem dX7_preset_73 : decode cX7_preset 73 = .ok (.iconst 2, 1) := by decide +kernel
theorem dX7_preset_74 : decode cX7_preset 74 = .ok (.invokevirtual 86, 3) := by decide +kernel
theorem dX7_preset_77 : decode cX7_preset 77 = .ok (.aload_n 0, 1) := by decide +kernel
theorem dX7_preset_78 : decode cX7_preset 78 = .ok (.iconst 3, 1) := by decide +kernel
theorem dX7_preset_79 : decode cX7_preset 79 = .ok (.iconst 0, 1) := by decide +kernel
theorem dX7_preset_80 : decode cX7_preset 80 = .ok (.iconst 2, 1) := by decide +kernel
theorem dX7_preset_81 : decode cX7_preset 81 = .ok (.iconst 0, 1) := by decide +kernel
theorem dX7_preset_82 : decode cX7_preset 82 = .ok (.invokevirtual 86, 3) := by decide +kernel
theorem dX7_preset_85 : decode cX7_preset 85 = .ok (.goto 51, 3) := by decide +kernel
theorem dX7_preset_88 : decode cX7_preset 88 = .ok (.aload_n 0, 1) := by decide +kernel
theorem dX7_preset_89 : decode cX7_preset 89 = .ok (.iconst 1, 1) := by decide +kernel
theorem dX7_preset_90 : decode cX7_preset 90 = .ok (.iconst 1, 1) := by decide +kernel
theorem dX7_preset_91 : decode cX7_preset 91 = .ok (.iconst 2, 1) := by decide +kernel
theorem dX7_preset_92 : decode cX7_preset 92 = .ok (.iconst 0, 1) := by decide +kernel
theorem dX7_preset_93 : decode cX7_preset 93 = .ok (.invokevirtual 86, 3) := by decide +kernel
theorem dX7_preset_96 : decode cX7_preset 96 = .ok (.aload_n 0, 1) := by decide +kernel
theorem dX7_preset_97 : decode cX7_preset 97 = .ok (.iconst 1, 1) := by decide +kernel
theorem dX7_preset_98 : decode cX7_preset 98 = .ok (.iconst 2, 1) := by decide +kernel
theorem dX7_preset_99 : decode cX7_preset 99 = .ok (.iconst 3, 1) := by decide +kernel
theorem dX7_preset_100 : decode cX7_preset 100 = .ok (.iconst 0, 1) := by decide +kernel
theorem dX7_preset_101 : decode cX7_preset 101 = .ok (.invokevirtual 86, 3) := by decide +kernel
theorem dX7_preset_104 : decode cX7_preset 104 = .ok (.aload_n 0, 1) := by decide +kernel
theorem dX7_preset_105 : decode cX7_preset 105 = .ok (.iconst 2, 1) := by decide +kernel
theorem dX7_preset_106 : decode cX7_preset 106 = .ok (.iconst 1, 1) := by decide +kernel
theorem dX7_preset_107 : decode cX7_preset 107 = .ok (.iconst 3, 1) := by decide +kernel
theorem dX7_preset_108 : decode cX7_preset 108 = .ok (.iconst 0, 1) := by decide +kernel
theorem dX7_preset_109 : decode cX7_preset 109 = .ok (.invokevirtual 86, 3) := by decide +kernel
theorem dX7_preset_112 : decode cX7_preset 112 = .ok (.aload_n 0, 1) := by decide +kernel
theorem dX7_preset_113 : decode cX7_preset 113 = .ok (.iconst 2, 1) := by decide +kernel
theorem dX7_preset_114 : decode cX7_preset 114 = .ok (.iconst 2, 1) := by decide +kernel
theorem dX7_preset_115 : decode cX7_preset 115 = .ok (.iconst 3, 1) := by decide +kernel
theorem dX7_preset_116 : decode cX7_preset 116 = .ok (.iconst 0, 1) := by decide +kernel
theorem dX7_preset_117 : decode cX7_preset 117 = .ok (.invokevirtual 86, 3) := by decide +kernel
theorem dX7_preset_120 : decode cX7_preset 120 = .ok (.aload_n 0, 1) := by decide +kernel
theorem dX7_preset_121 : decode cX7_preset 121 = .ok (.iconst 3, 1) := by decide +kernel
theorem dX7_preset_122 : decode cX7_preset 122 = .ok (.iconst 0, 1) := by decide +kernel
theorem dX7_preset_123 : decode cX7_preset 123 = .ok (.iconst 3, 1) := by decide +kernel
theorem dX7_preset_124 : decode cX7_preset 124 = .ok (.iconst 3, 1) := by decide +kernel
theorem dX7_preset_125 : decode cX7_preset 125 = .ok (.invokevirtual 86, 3) := by decide +kernel
theorem dX7_preset_128 : decode cX7_preset 128 = .ok (.aload_n 0, 1) := by decide +kernel
theorem dX7_preset_129 : decode cX7_preset 129 = .ok (.iconst 0, 1) := by decide +kernel
theorem dX7_preset_130 : decode cX7_preset 130 = .ok (.iconst 3, 1) := by decide +kernel
theorem dX7_preset_131 : decode cX7_preset 131 = .ok (.iconst 3, 1) := by decide +kernel
theorem dX7_preset_132 : decode cX7_preset 132 = .ok (.iconst 3, 1) := by decide +kernel
theorem dX7_preset_133 : decode cX7_preset 133 = .ok (.invokevirtual 86, 3) := by decide +kernel
theorem dX7_preset_136 : decode cX7_preset 136 = .ok (.aload_n 0, 1) := by decide +kernel
theorem dX7_preset_137 : decode cX7_preset 137 = .ok (.getfield 71, 3) := by decide +kernel
theorem dX7_preset_140 : decode cX7_preset 140 = .ok (.ireturn, 1) := by decide +kernel
set_option maxRecDepth 20000 in
theorem ggX7_ofRule_X7_within : GoodIn wsX7_ofRule wsX7_within := goodIn_r _ [9] (by decide +kernel) (by decide +kernel)
set_option maxRecDepth 20000 in
theorem gX7_ofRule_X7_within : GoodIn wsX7_ofRule (va_wsS RX7 67 yX7_within wsX7_within) := goodIn_app (goodIn_of _ (by decide +kernel)) ggX7_ofRule_X7_within
theorem dX7_ofRule_0 : decode cX7_ofRule 0 = .ok (.iload_n 1, 1) := by decide +kernel
theorem dX7_ofRule_1 : decode cX7_ofRule 1 = .ok (.iconst 0, 1) := by decide +kernel
theorem dX7_ofRule_2 : decode cX7_ofRule 2 = .ok (.aload_n 0, 1) := by decide +kernel
theorem dX7_ofRule_3 : decode cX7_ofRule 3 = .ok (.getfield 71, 3) := by decide +kernel
theorem dX7_ofRule_6 : decode cX7_ofRule 6 = .ok (.iconst 1, 1) := by decide +kernel
theorem dX7_ofRule_7 : decode cX7_ofRule 7 = .ok (.isub, 1) := by decide +kernel
theorem dX7_ofRule_8 : decode cX7_ofRule 8 = .ok (.invokestatic 67, 3) := by decide +kernel
theorem dX7_ofRule_11 : decode cX7_ofRule 11 = .ok (.ifCond .ne 5, 3) := by decide +kernel
theorem dX7_ofRule_14 : decode cX7_ofRule 14 = .ok (.iconst (-1), 1) := by decide +kernel
theorem dX7_ofRule_15 : decode cX7_ofRule 15 = .ok (.ireturn, 1) := by decide +kernel
theorem dX7_ofRule_16 : decode cX7_ofRule 16 = .ok (.iload_n 2, 1) := by decide +kernel
theorem dX7_ofRule_17 : decode cX7_ofRule 17 = .ok (.tableswitch 59 0 3 #[31, 38, 45, 52], 31) := by decide +kernel
theorem dX7_ofRule_48 : decode cX7_ofRule 48 = .ok (.aload_n 0, 1) := by decide +kernel
theorem dX7_ofRule_49 : decode cX7_ofRule 49 = .ok (.getfield 7, 3) := by decide +kernel
theorem dX7_ofRule_52 : decode cX7_ofRule 52 = .ok (.iload_n 1, 1) := by decide +kernel
theorem dX7_ofRule_53 : decode cX7_ofRule 53 = .ok (.iaload, 1) := by decide +kernel
theorem dX7_ofRule_54 : decode cX7_ofRule 54 = .ok (.ireturn, 1) := by decide +kernel
theorem dX7_ofRule_55 : decode cX7_ofRule 55 = .ok (.aload_n 0, 1) := by decide +kernel
theorem dX7_ofRule_56 : decode cX7_ofRule 56 = .ok (.getfield 13, 3) := by decide +kernel
theorem dX7_ofRule_59 : decode cX7_ofRule 59 = .ok (.iload_n 1, 1) := by decide +kernel
theorem dX7_ofRule_60 : decode cX7_ofRule 60 = .ok (.iaload, 1) := by decide +kernel
theorem dX7_ofRule_61 : decode cX7_ofRule 61 = .ok (.ireturn, 1) := by decide +kernel
theorem dX7_ofRule_62 : decode cX7_ofRule 62 = .ok (.aload_n 0, 1) := by decide +kernel
theorem dX7_ofRule_63 : decode cX7_ofRule 63 = .ok (.getfield 16, 3) := by decide +kernel
theorem dX7_ofRule_66 : decode cX7_ofRule 66 = .ok (.iload_n 1, 1) := by decide +kernel
theorem dX7_ofRule_67 : decode cX7_ofRule 67 = .ok (.iaload, 1) := by decide +kernel
theorem dX7_ofRule_68 : decode cX7_ofRule 68 = .ok (.ireturn, 1) := by decide +kernel
theorem dX7_ofRule_69 : decode cX7_ofRule 69 = .ok (.aload_n 0, 1) := by decide +kernel
theorem dX7_ofRule_70 : decode cX7_ofRule 70 = .ok (.getfield 19, 3) := by decide +kernel
theorem dX7_ofRule_73 : decode cX7_ofRule 73 = .ok (.iload_n 1, 1) := by decide +kernel
theorem dX7_ofRule_74 : decode cX7_ofRule 74 = .ok (.iaload, 1) := by decide +kernel
theorem dX7_ofRule_75 : decode cX7_ofRule 75 = .ok (.ireturn, 1) := by decide +kernel
theorem dX7_ofRule_76 : decode cX7_ofRule 76 = .ok (.bipush (-2), 2) := by decide +kernel
theorem dX7_ofRule_78 : decode cX7_ofRule 78 = .ok (.ireturn, 1) := by decide +kernel
set_option maxRecDepth 20000 in
theorem ggX7_tells_X7_isState : GoodIn wsX7_tells wsX7_isState := goodIn_r _ [5, 6, 7, 4, 8] (by decide +kernel) (by decide +kernel)
set_option maxRecDepth 20000 in
theorem gX7_tells_X7_isState : GoodIn wsX7_tells (va_wsS RX7 82 yX7_isState wsX7_isState) := goodIn_app (goodIn_of _ (by decide +kernel)) ggX7_tells_X7_isState
set_option maxRecDepth 20000 in
theorem ggX7_tells_X7_within : GoodIn wsX7_tells wsX7_within := goodIn_r _ [8] (by decide +kernel) (by decide +kernel)
set_option maxRecDepth 20000 in
theorem gX7_tells_X7_within : GoodIn wsX7_tells (va_wsS RX7 67 yX7_within wsX7_within) := goodIn_app (goodIn_of _ (by decide +kernel)) ggX7_tells_X7_within
theorem dX7_tells_0 : decode cX7_tells 0 = .ok (.iload_n 1, 1) := by decide +kernel
theorem dX7_tells_1 : decode cX7_tells 1 = .ok (.invokestatic 82, 3) := by decide +kernel
theorem dX7_tells_4 : decode cX7_tells 4 = .ok (.ifCond .ne 5, 3) := by decide +kernel
theorem dX7_tells_7 : decode cX7_tells 7 = .ok (.iconst (-1), 1) := by decide +kernel
theorem dX7_tells_8 : decode cX7_tells 8 = .ok (.ireturn, 1) := by decide +kernel
theorem dX7_tells_9 : decode cX7_tells 9 = .ok (.iload_n 2, 1) := by decide +kernel
theorem dX7_tells_10 : decode cX7_tells 10 = .ok (.iconst 0, 1) := by decide +kernel
theorem dX7_tells_11 : decode cX7_tells 11 = .ok (.iconst 2, 1) := by decide +kernel
theorem dX7_tells_12 : decode cX7_tells 12 = .ok (.invokestatic 67, 3) := by decide +kernel
theorem dX7_tells_15 : decode cX7_tells 15 = .ok (.ifCond .ne 6, 3) := by decide +kernel
theorem dX7_tells_18 : decode cX7_tells 18 = .ok (.bipush (-2), 2) := by decide +kernel
theorem dX7_tells_20 : decode cX7_tells 20 = .ok (.ireturn, 1) := by decide +kernel
theorem dX7_tells_21 : decode cX7_tells 21 = .ok (.aload_n 0, 1) := by decide +kernel
theorem dX7_tells_22 : decode cX7_tells 22 = .ok (.getfield 22, 3) := by decide +kernel
theorem dX7_tells_25 : decode cX7_tells 25 = .ok (.iload_n 1, 1) := by decide +kernel
theorem dX7_tells_26 : decode cX7_tells 26 = .ok (.iaload, 1) := by decide +kernel
theorem dX7_tells_27 : decode cX7_tells 27 = .ok (.istore_n 3, 1) := by decide +kernel
theorem dX7_tells_28 : decode cX7_tells 28 = .ok (.aload_n 0, 1) := by decide +kernel
theorem dX7_tells_29 : decode cX7_tells 29 = .ok (.getfield 22, 3) := by decide +kernel
theorem dX7_tells_32 : decode cX7_tells 32 = .ok (.iload_n 1, 1) := by decide +kernel
theorem dX7_tells_33 : decode cX7_tells 33 = .ok (.iload_n 2, 1) := by decide +kernel
theorem dX7_tells_34 : decode cX7_tells 34 = .ok (.iastore, 1) := by decide +kernel
theorem dX7_tells_35 : decode cX7_tells 35 = .ok (.iload_n 3, 1) := by decide +kernel
theorem dX7_tells_36 : decode cX7_tells 36 = .ok (.ireturn, 1) := by decide +kernel
set_option maxRecDepth 20000 in
theorem ggX7_isAgent_X7_within : GoodIn wsX7_isAgent wsX7_within := goodIn_r _ [5] (by decide +kernel) (by decide +kernel)
set_option maxRecDepth 20000 in
theorem gX7_isAgent_X7_within : GoodIn wsX7_isAgent (va_wsS RX7 67 yX7_within wsX7_within) := goodIn_app (goodIn_of _ (by decide +kernel)) ggX7_isAgent_X7_within
theorem dX7_isAgent_0 : decode cX7_isAgent 0 = .ok (.iload_n 1, 1) := by decide +kernel
theorem dX7_isAgent_1 : decode cX7_isAgent 1 = .ok (.iconst 0, 1) := by decide +kernel
theorem dX7_isAgent_2 : decode cX7_isAgent 2 = .ok (.aload_n 0, 1) := by decide +kernel
theorem dX7_isAgent_3 : decode cX7_isAgent 3 = .ok (.getfield 90, 3) := by decide +kernel
theorem dX7_isAgent_6 : decode cX7_isAgent 6 = .ok (.iconst 1, 1) := by decide +kernel
theorem dX7_isAgent_7 : decode cX7_isAgent 7 = .ok (.isub, 1) := by decide +kernel
theorem dX7_isAgent_8 : decode cX7_isAgent 8 = .ok (.invokestatic 67, 3) := by decide +kernel
theorem dX7_isAgent_11 : decode cX7_isAgent 11 = .ok (.ireturn, 1) := by decide +kernel
theorem dX7_adds_0 : decode cX7_adds 0 = .ok (.iconst 0, 1) := by decide +kernel
theorem dX7_adds_1 : decode cX7_adds 1 = .ok (.istore_n 3, 1) := by decide +kernel
theorem dX7_adds_2 : decode cX7_adds 2 = .ok (.iload_n 3, 1) := by decide +kernel
theorem dX7_adds_3 : decode cX7_adds 3 = .ok (.iload_n 1, 1) := by decide +kernel
theorem dX7_adds_4 : decode cX7_adds 4 = .ok (.if_icmp .ge 29, 3) := by decide +kernel
theorem dX7_adds_7 : decode cX7_adds 7 = .ok (.aload_n 0, 1) := by decide +kernel
theorem dX7_adds_8 : decode cX7_adds 8 = .ok (.getfield 28, 3) := by decide +kernel
theorem dX7_adds_11 : decode cX7_adds 11 = .ok (.aload_n 0, 1) := by decide +kernel
theorem dX7_adds_12 : decode cX7_adds 12 = .ok (.getfield 90, 3) := by decide +kernel
theorem dX7_adds_15 : decode cX7_adds 15 = .ok (.iload_n 2, 1) := by decide +kernel
theorem dX7_adds_16 : decode cX7_adds 16 = .ok (.iastore, 1) := by decide +kernel
theorem dX7_adds_17 : decode cX7_adds 17 = .ok (.aload_n 0, 1) := by decide +kernel
theorem dX7_adds_18 : decode cX7_adds 18 = .ok (.dup, 1) := by decide +kernel
theorem dX7_adds_19 : decode cX7_adds 19 = .ok (.getfield 90, 3) := by decide +kernel
theorem dX7_adds_22 : decode cX7_adds 22 = .ok (.iconst 1, 1) := by decide +kernel
theorem dX7_adds_23 : decode cX7_adds 23 = .ok (.iadd, 1) := by decide +kernel
theorem dX7_adds_24 : decode cX7_adds 24 = .ok (.putfield 90, 3) := by decide +kernel
theorem dX7_adds_27 : decode cX7_adds 27 = .ok (.iinc 3 1, 3) := by decide +kernel
theorem dX7_adds_30 : decode cX7_adds 30 = .ok (.goto (-28), 3) := by decide +kernel
theorem dX7_adds_33 : decode cX7_adds 33 = .ok (.return_, 1) := by decide +kernel
set_option maxRecDepth 20000 in
theorem ggX7_agents_X7_adds : GoodIn wsX7_agents wsX7_adds := goodIn_r _ [11, 12, 3, 13, 14, 15, 16, 17, 18, 19, 20, 21, 22, 23, 24, 25, 26, 27, 28, 29, 30, 31, 32, 33, 34, 35] (by decide +kernel) (by decide +kernel)
set_option maxRecDepth 20000 in
theorem gX7_agents_X7_adds : GoodIn wsX7_agents (wsV RX7 97 RX7 yX7_adds wsX7_adds) := goodIn_app (goodIn_of _ (by decide +kernel)) ggX7_agents_X7_adds
theorem dX7_agents_0 : decode cX7_agents 0 = .ok (.iload_n 1, 1) := by decide +kernel
theorem dX7_agents_1 : decode cX7_agents 1 = .ok (.ifCond .lt 26, 3) := by decide +kernel
theorem dX7_agents_4 : decode cX7_agents 4 = .ok (.iload_n 2, 1) := by decide +kernel
theorem dX7_agents_5 : decode cX7_agents 5 = .ok (.ifCond .lt 22, 3) := by decide +kernel
theorem dX7_agents_8 : decode cX7_agents 8 = .ok (.iload_n 3, 1) := by decide +kernel
theorem dX7_agents_9 : decode cX7_agents 9 = .ok (.ifCond .lt 18, 3) := by decide +kernel
theorem dX7_agents_12 : decode cX7_agents 12 = .ok (.iload 4, 2) := by decide +kernel
theorem dX7_agents_14 : decode cX7_agents 14 = .ok (.ifCond .lt 13, 3) := by decide +kernel
theorem dX7_agents_17 : decode cX7_agents 17 = .ok (.iload 5, 2) := by decide +kernel
theorem dX7_agents_19 : decode cX7_agents 19 = .ok (.ifCond .lt 8, 3) := by decide +kernel
theorem dX7_agents_22 : decode cX7_agents 22 = .ok (.iload 6, 2) := by decide +kernel
theorem dX7_agents_24 : decode cX7_agents 24 = .ok (.ifCond .ge 7, 3) := by decide +kernel
theorem dX7_agents_27 : decode cX7_agents 27 = .ok (.iconst 1, 1) := by decide +kernel
theorem dX7_agents_28 : decode cX7_agents 28 = .ok (.goto 4, 3) := by decide +kernel
theorem dX7_agents_31 : decode cX7_agents 31 = .ok (.iconst 0, 1) := by decide +kernel
theorem dX7_agents_32 : decode cX7_agents 32 = .ok (.istore 7, 2) := by decide +kernel
theorem dX7_agents_34 : decode cX7_agents 34 = .ok (.iload_n 1, 1) := by decide +kernel
theorem dX7_agents_35 : decode cX7_agents 35 = .ok (.i2l, 1) := by decide +kernel
theorem dX7_agents_36 : decode cX7_agents 36 = .ok (.iload_n 2, 1) := by decide +kernel
theorem dX7_agents_37 : decode cX7_agents 37 = .ok (.i2l, 1) := by decide +kernel
theorem dX7_agents_38 : decode cX7_agents 38 = .ok (.ladd, 1) := by decide +kernel
theorem dX7_agents_39 : decode cX7_agents 39 = .ok (.iload_n 3, 1) := by decide +kernel
theorem dX7_agents_40 : decode cX7_agents 40 = .ok (.i2l, 1) := by decide +kernel
theorem dX7_agents_41 : decode cX7_agents 41 = .ok (.ladd, 1) := by decide +kernel
theorem dX7_agents_42 : decode cX7_agents 42 = .ok (.iload 4, 2) := by decide +kernel
theorem dX7_agents_44 : decode cX7_agents 44 = .ok (.i2l, 1) := by decide +kernel
theorem dX7_agents_45 : decode cX7_agents 45 = .ok (.ladd, 1) := by decide +kernel
theorem dX7_agents_46 : decode cX7_agents 46 = .ok (.iload 5, 2) := by decide +kernel
theorem dX7_agents_48 : decode cX7_agents 48 = .ok (.i2l, 1) := by decide +kernel
theorem dX7_agents_49 : decode cX7_agents 49 = .ok (.ladd, 1) := by decide +kernel
theorem dX7_agents_50 : decode cX7_agents 50 = .ok (.iload 6, 2) := by decide +kernel
theorem dX7_agents_52 : decode cX7_agents 52 = .ok (.i2l, 1) := by decide +kernel
theorem dX7_agents_53 : decode cX7_agents 53 = .ok (.ladd, 1) := by decide +kernel
theorem dX7_agents_54 : decode cX7_agents 54 = .ok (.lstore 8, 2) := by decide +kernel
theorem dX7_agents_56 : decode cX7_agents 56 = .ok (.iload 7, 2) := by decide +kernel
theorem dX7_agents_58 : decode cX7_agents 58 = .ok (.ifCond .ne 21, 3) := by decide +kernel
theorem dX7_agents_61 : decode cX7_agents 61 = .ok (.lload 8, 2) := by decide +kernel
theorem dX7_agents_63 : decode cX7_agents 63 = .ok (.ldc2_w 93, 3) := by decide +kernel
theorem dX7_agents_66 : decode cX7_agents 66 = .ok (.lcmp, 1) := by decide +kernel
theorem dX7_agents_67 : decode cX7_agents 67 = .ok (.ifCond .lt 12, 3) := by decide +kernel
theorem dX7_agents_70 : decode cX7_agents 70 = .ok (.lload 8, 2) := by decide +kernel
theorem dX7_agents_72 : decode cX7_agents 72 = .ok (.ldc2_w 95, 3) := by decide +kernel
theorem dX7_agents_75 : decode cX7_agents 75 = .ok (.lcmp, 1) := by decide +kernel
theorem dX7_agents_76 : decode cX7_agents 76 = .ok (.ifCond .le 6, 3) := by decide +kernel
theorem dX7_agents_79 : decode cX7_agents 79 = .ok (.bipush (-2), 2) := by decide +kernel
theorem dX7_agents_81 : decode cX7_agents 81 = .ok (.ireturn, 1) := by decide +kernel
theorem dX7_agents_82 : decode cX7_agents 82 = .ok (.aload_n 0, 1) := by decide +kernel
theorem dX7_agents_83 : decode cX7_agents 83 = .ok (.iconst 0, 1) := by decide +kernel
theorem dX7_agents_84 : decode cX7_agents 84 = .ok (.putfield 90, 3) := by decide +kernel
theorem dX7_agents_87 : decode cX7_agents 87 = .ok (.aload_n 0, 1) := by decide +kernel
theorem dX7_agents_88 : decode cX7_agents 88 = .ok (.iload_n 1, 1) := by decide +kernel
theorem dX7_agents_89 : decode cX7_agents 89 = .ok (.iconst 0, 1) := by decide +kernel
theorem dX7_agents_90 : decode cX7_agents 90 = .ok (.invokevirtual 97, 3) := by decide +kernel
theorem dX7_agents_93 : decode cX7_agents 93 = .ok (.aload_n 0, 1) := by decide +kernel
theorem dX7_agents_94 : decode cX7_agents 94 = .ok (.iload_n 2, 1) := by decide +kernel
theorem dX7_agents_95 : decode cX7_agents 95 = .ok (.iconst 1, 1) := by decide +kernel
theorem dX7_agents_96 : decode cX7_agents 96 = .ok (.invokevirtual 97, 3) := by decide +kernel
theorem dX7_agents_99 : decode cX7_agents 99 = .ok (.aload_n 0, 1) := by decide +kernel
theorem dX7_agents_100 : decode cX7_agents 100 = .ok (.iload_n 3, 1) := by decide +kernel
theorem dX7_agents_101 : decode cX7_agents 101 = .ok (.iconst 2, 1) := by decide +kernel
theorem dX7_agents_102 : decode cX7_agents 102 = .ok (.invokevirtual 97, 3) := by decide +kernel
theorem dX7_agents_105 : decode cX7_agents 105 = .ok (.aload_n 0, 1) := by decide +kernel
theorem dX7_agents_106 : decode cX7_agents 106 = .ok (.iload 4, 2) := by decide +kernel
theorem dX7_agents_108 : decode cX7_agents 108 = .ok (.iconst 3, 1) := by decide +kernel
theorem dX7_agents_109 : decode cX7_agents 109 = .ok (.invokevirtual 97, 3) := by decide +kernel
theorem dX7_agents_112 : decode cX7_agents 112 = .ok (.aload_n 0, 1) := by decide +kernel
theorem dX7_agents_113 : decode cX7_agents 113 = .ok (.iload 5, 2) := by decide +kernel
theorem dX7_agents_115 : decode cX7_agents 115 = .ok (.iconst 4, 1) := by decide +kernel
theorem dX7_agents_116 : decode cX7_agents 116 = .ok (.invokevirtual 97, 3) := by decide +kernel
theorem dX7_agents_119 : decode cX7_agents 119 = .ok (.aload_n 0, 1) := by decide +kernel
theorem dX7_agents_120 : decode cX7_agents 120 = .ok (.iload 6, 2) := by decide +kernel
theorem dX7_agents_122 : decode cX7_agents 122 = .ok (.iconst 5, 1) := by decide +kernel
theorem dX7_agents_123 : decode cX7_agents 123 = .ok (.invokevirtual 97, 3) := by decide +kernel
theorem dX7_agents_126 : decode cX7_agents 126 = .ok (.aload_n 0, 1) := by decide +kernel
theorem dX7_agents_127 : decode cX7_agents 127 = .ok (.iconst 0, 1) := by decide +kernel
theorem dX7_agents_128 : decode cX7_agents 128 = .ok (.putfield 101, 3) := by decide +kernel
theorem dX7_agents_131 : decode cX7_agents 131 = .ok (.aload_n 0, 1) := by decide +kernel
theorem dX7_agents_132 : decode cX7_agents 132 = .ok (.iconst 0, 1) := by decide +kernel
theorem dX7_agents_133 : decode cX7_agents 133 = .ok (.putfield 104, 3) := by decide +kernel
theorem dX7_agents_136 : decode cX7_agents 136 = .ok (.iconst 0, 1) := by decide +kernel
theorem dX7_agents_137 : decode cX7_agents 137 = .ok (.istore 10, 2) := by decide +kernel
theorem dX7_agents_139 : decode cX7_agents 139 = .ok (.iload 10, 2) := by decide +kernel
theorem dX7_agents_141 : decode cX7_agents 141 = .ok (.bipush 36, 2) := by decide +kernel
theorem dX7_agents_143 : decode cX7_agents 143 = .ok (.if_icmp .ge 17, 3) := by decide +kernel
theorem dX7_agents_146 : decode cX7_agents 146 = .ok (.aload_n 0, 1) := by decide +kernel
theorem dX7_agents_147 : decode cX7_agents 147 = .ok (.getfield 31, 3) := by decide +kernel
theorem dX7_agents_150 : decode cX7_agents 150 = .ok (.iload 10, 2) := by decide +kernel
theorem dX7_agents_152 : decode cX7_agents 152 = .ok (.iconst 0, 1) := by decide +kernel
theorem dX7_agents_153 : decode cX7_agents 153 = .ok (.iastore, 1) := by decide +kernel
theorem dX7_agents_154 : decode cX7_agents 154 = .ok (.iinc 10 1, 3) := by decide +kernel
theorem dX7_agents_157 : decode cX7_agents 157 = .ok (.goto (-18), 3) := by decide +kernel
theorem dX7_agents_160 : decode cX7_agents 160 = .ok (.aload_n 0, 1) := by decide +kernel
theorem dX7_agents_161 : decode cX7_agents 161 = .ok (.getfield 90, 3) := by decide +kernel
theorem dX7_agents_164 : decode cX7_agents 164 = .ok (.ireturn, 1) := by decide +kernel
set_option maxRecDepth 20000 in
theorem ggX7_agent_X7_isAgent : GoodIn wsX7_agent wsX7_isAgent := goodIn_r _ [6, 7, 8, 9, 5, 10, 11, 12, 13, 14, 15, 16, 17, 18, 19, 20, 21, 22, 23, 24, 25, 26, 27, 28, 29, 30, 31, 32, 33] (by decide +kernel) (by decide +kernel)
set_option maxRecDepth 20000 in
theorem gX7_agent_X7_isAgent : GoodIn wsX7_agent (wsV RX7 107 RX7 yX7_isAgent wsX7_isAgent) := goodIn_app (goodIn_of _ (by decide +kernel)) ggX7_agent_X7_isAgent
theorem dX7_agent_0 : decode cX7_agent 0 = .ok (.aload_n 0, 1) := by decide +kernel
theorem dX7_agent_1 : decode cX7_agent 1 = .ok (.iload_n 1, 1) := by decide +kernel
theorem dX7_agent_2 : decode cX7_agent 2 = .ok (.invokevirtual 107, 3) := by decide +kernel
theorem dX7_agent_5 : decode cX7_agent 5 = .ok (.ifCond .eq 12, 3) := by decide +kernel
theorem dX7_agent_8 : decode cX7_agent 8 = .ok (.aload_n 0, 1) := by decide +kernel
theorem dX7_agent_9 : decode cX7_agent 9 = .ok (.getfield 28, 3) := by decide +kernel
theorem dX7_agent_12 : decode cX7_agent 12 = .ok (.iload_n 1, 1) := by decide +kernel
theorem dX7_agent_13 : decode cX7_agent 13 = .ok (.iaload, 1) := by decide +kernel
theorem dX7_agent_14 : decode cX7_agent 14 = .ok (.goto 4, 3) := by decide +kernel
theorem dX7_agent_17 : decode cX7_agent 17 = .ok (.iconst (-1), 1) := by decide +kernel
theorem dX7_agent_18 : decode cX7_agent 18 = .ok (.ireturn, 1) := by decide +kernel
set_option maxRecDepth 20000 in
theorem ggX7_meets_X7_ruleFor : GoodIn wsX7_meets wsX7_ruleFor := goodIn_r _ [13, 14, 5, 7, 15, 16, 17, 18, 19, 20, 21, 22, 23, 24, 25, 26, 27, 28, 29, 30, 31, 32, 33, 34, 35, 36, 37] (by decide +kernel) (by decide +kernel)
set_option maxRecDepth 20000 in
theorem gX7_meets_X7_ruleFor : GoodIn wsX7_meets (wsV RX7 74 RX7 yX7_ruleFor wsX7_ruleFor) := goodIn_app (goodIn_of _ (by decide +kernel)) ggX7_meets_X7_ruleFor
theorem dX7_meets_0 : decode cX7_meets 0 = .ok (.aload_n 0, 1) := by decide +kernel
theorem dX7_meets_1 : decode cX7_meets 1 = .ok (.aload_n 0, 1) := by decide +kernel
theorem dX7_meets_2 : decode cX7_meets 2 = .ok (.getfield 28, 3) := by decide +kernel
theorem dX7_meets_5 : decode cX7_meets 5 = .ok (.iload_n 1, 1) := by decide +kernel
theorem dX7_meets_6 : decode cX7_meets 6 = .ok (.iaload, 1) := by decide +kernel
theorem dX7_meets_7 : decode cX7_meets 7 = .ok (.aload_n 0, 1) := by decide +kernel
theorem dX7_meets_8 : decode cX7_meets 8 = .ok (.getfield 28, 3) := by decide +kernel
theorem dX7_meets_11 : decode cX7_meets 11 = .ok (.iload_n 2, 1) := by decide +kernel
theorem dX7_meets_12 : decode cX7_meets 12 = .ok (.iaload, 1) := by decide +kernel
theorem dX7_meets_13 : decode cX7_meets 13 = .ok (.invokevirtual 74, 3) := by decide +kernel
theorem dX7_meets_16 : decode cX7_meets 16 = .ok (.istore_n 3, 1) := by decide +kernel
theorem dX7_meets_17 : decode cX7_meets 17 = .ok (.aload_n 0, 1) := by decide +kernel
theorem dX7_meets_18 : decode cX7_meets 18 = .ok (.dup, 1) := by decide +kernel
theorem dX7_meets_19 : decode cX7_meets 19 = .ok (.getfield 101, 3) := by decide +kernel
theorem dX7_meets_22 : decode cX7_meets 22 = .ok (.iconst 1, 1) := by decide +kernel
theorem dX7_meets_23 : decode cX7_meets 23 = .ok (.iadd, 1) := by decide +kernel
theorem dX7_meets_24 : decode cX7_meets 24 = .ok (.putfield 101, 3) := by decide +kernel
theorem dX7_meets_27 : decode cX7_meets 27 = .ok (.aload_n 0, 1) := by decide +kernel
theorem dX7_meets_28 : decode cX7_meets 28 = .ok (.getfield 31, 3) := by decide +kernel
theorem dX7_meets_31 : decode cX7_meets 31 = .ok (.bipush 6, 2) := by decide +kernel
theorem dX7_meets_33 : decode cX7_meets 33 = .ok (.iload_n 1, 1) := by decide +kernel
theorem dX7_meets_34 : decode cX7_meets 34 = .ok (.imul, 1) := by decide +kernel
theorem dX7_meets_35 : decode cX7_meets 35 = .ok (.iload_n 2, 1) := by decide +kernel
theorem dX7_meets_36 : decode cX7_meets 36 = .ok (.iadd, 1) := by decide +kernel
theorem dX7_meets_37 : decode cX7_meets 37 = .ok (.aload_n 0, 1) := by decide +kernel
theorem dX7_meets_38 : decode cX7_meets 38 = .ok (.getfield 101, 3) := by decide +kernel
theorem dX7_meets_41 : decode cX7_meets 41 = .ok (.iastore, 1) := by decide +kernel
theorem dX7_meets_42 : decode cX7_meets 42 = .ok (.iload_n 3, 1) := by decide +kernel
theorem dX7_meets_43 : decode cX7_meets 43 = .ok (.bipush (-9), 2) := by decide +kernel
theorem dX7_meets_45 : decode cX7_meets 45 = .ok (.if_icmp .ne 5, 3) := by decide +kernel
theorem dX7_meets_48 : decode cX7_meets 48 = .ok (.iconst 0, 1) := by decide +kernel
theorem dX7_meets_49 : decode cX7_meets 49 = .ok (.ireturn, 1) := by decide +kernel
theorem dX7_meets_50 : decode cX7_meets 50 = .ok (.aload_n 0, 1) := by decide +kernel
theorem dX7_meets_51 : decode cX7_meets 51 = .ok (.getfield 16, 3) := by decide +kernel
theorem dX7_meets_54 : decode cX7_meets 54 = .ok (.iload_n 3, 1) := by decide +kernel
theorem dX7_meets_55 : decode cX7_meets 55 = .ok (.iaload, 1) := by decide +kernel
theorem dX7_meets_56 : decode cX7_meets 56 = .ok (.aload_n 0, 1) := by decide +kernel
theorem dX7_meets_57 : decode cX7_meets 57 = .ok (.getfield 7, 3) := by decide +kernel
theorem dX7_meets_60 : decode cX7_meets 60 = .ok (.iload_n 3, 1) := by decide +kernel
theorem dX7_meets_61 : decode cX7_meets 61 = .ok (.iaload, 1) := by decide +kernel
theorem dX7_meets_62 : decode cX7_meets 62 = .ok (.if_icmp .ne 18, 3) := by decide +kernel
theorem dX7_meets_65 : decode cX7_meets 65 = .ok (.aload_n 0, 1) := by decide +kernel
theorem dX7_meets_66 : decode cX7_meets 66 = .ok (.getfield 19, 3) := by decide +kernel
theorem dX7_meets_69 : decode cX7_meets 69 = .ok (.iload_n 3, 1) := by decide +kernel
theorem dX7_meets_70 : decode cX7_meets 70 = .ok (.iaload, 1) := by decide +kernel
theorem dX7_meets_71 : decode cX7_meets 71 = .ok (.aload_n 0, 1) := by decide +kernel
theorem dX7_meets_72 : decode cX7_meets 72 = .ok (.getfield 13, 3) := by decide +kernel
theorem dX7_meets_75 : decode cX7_meets 75 = .ok (.iload_n 3, 1) := by decide +kernel
theorem dX7_meets_76 : decode cX7_meets 76 = .ok (.iaload, 1) := by decide +kernel
theorem dX7_meets_77 : decode cX7_meets 77 = .ok (.if_icmp .eq 7, 3) := by decide +kernel
theorem dX7_meets_80 : decode cX7_meets 80 = .ok (.iconst 1, 1) := by decide +kernel
theorem dX7_meets_81 : decode cX7_meets 81 = .ok (.goto 4, 3) := by decide +kernel
theorem dX7_meets_84 : decode cX7_meets 84 = .ok (.iconst 0, 1) := by decide +kernel
theorem dX7_meets_85 : decode cX7_meets 85 = .ok (.istore 4, 2) := by decide +kernel
theorem dX7_meets_87 : decode cX7_meets 87 = .ok (.aload_n 0, 1) := by decide +kernel
theorem dX7_meets_88 : decode cX7_meets 88 = .ok (.getfield 28, 3) := by decide +kernel
theorem dX7_meets_91 : decode cX7_meets 91 = .ok (.iload_n 1, 1) := by decide +kernel
theorem dX7_meets_92 : decode cX7_meets 92 = .ok (.aload_n 0, 1) := by decide +kernel
theorem dX7_meets_93 : decode cX7_meets 93 = .ok (.getfield 16, 3) := by decide +kernel
theorem dX7_meets_96 : decode cX7_meets 96 = .ok (.iload_n 3, 1) := by decide +kernel
theorem dX7_meets_97 : decode cX7_meets 97 = .ok (.iaload, 1) := by decide +kernel
theorem dX7_meets_98 : decode cX7_meets 98 = .ok (.iastore, 1) := by decide +kernel
theorem dX7_meets_99 : decode cX7_meets 99 = .ok (.aload_n 0, 1) := by decide +kernel
theorem dX7_meets_100 : decode cX7_meets 100 = .ok (.getfield 28, 3) := by decide +kernel
theorem dX7_meets_103 : decode cX7_meets 103 = .ok (.iload_n 2, 1) := by decide +kernel
theorem dX7_meets_104 : decode cX7_meets 104 = .ok (.aload_n 0, 1) := by decide +kernel
theorem dX7_meets_105 : decode cX7_meets 105 = .ok (.getfield 19, 3) := by decide +kernel
theorem dX7_meets_108 : decode cX7_meets 108 = .ok (.iload_n 3, 1) := by decide +kernel
theorem dX7_meets_109 : decode cX7_meets 109 = .ok (.iaload, 1) := by decide +kernel
theorem dX7_meets_110 : decode cX7_meets 110 = .ok (.iastore, 1) := by decide +kernel
theorem dX7_meets_111 : decode cX7_meets 111 = .ok (.aload_n 0, 1) := by decide +kernel
theorem dX7_meets_112 : decode cX7_meets 112 = .ok (.dup, 1) := by decide +kernel
theorem dX7_meets_113 : decode cX7_meets 113 = .ok (.getfield 104, 3) := by decide +kernel
theorem dX7_meets_116 : decode cX7_meets 116 = .ok (.iload 4, 2) := by decide +kernel
theorem dX7_meets_118 : decode cX7_meets 118 = .ok (.iadd, 1) := by decide +kernel
theorem dX7_meets_119 : decode cX7_meets 119 = .ok (.putfield 104, 3) := by decide +kernel
theorem dX7_meets_122 : decode cX7_meets 122 = .ok (.iload 4, 2) := by decide +kernel
theorem dX7_meets_124 : decode cX7_meets 124 = .ok (.ireturn, 1) := by decide +kernel
set_option maxRecDepth 20000 in
theorem ggX7_meet_X7_isAgent : GoodIn wsX7_meet wsX7_isAgent := goodIn_r _ [5, 6, 7, 8, 4, 9, 27, 28, 29, 30, 31, 32, 33, 34, 35, 36, 37, 38, 39, 40, 41, 42, 43, 44, 45, 46, 47, 48, 49] (by decide +kernel) (by decide +kernel)
set_option maxRecDepth 20000 in
theorem gX7_meet_X7_isAgent : GoodIn wsX7_meet (wsV RX7 107 RX7 yX7_isAgent wsX7_isAgent) := goodIn_app (goodIn_of _ (by decide +kernel)) ggX7_meet_X7_isAgent
set_option maxRecDepth 20000 in
theorem ggX7_meet_X7_meets : GoodIn wsX7_meet wsX7_meets := goodIn_r _ [13, 14, 15, 16, 17, 18, 19, 20, 21, 22, 23, 24, 4, 25, 26, 27, 28, 29, 30, 31, 32, 33, 34, 35, 36, 37, 38, 39, 40, 41, 42, 43, 44, 45, 46, 47, 48, 49] (by decide +kernel) (by decide +kernel)
set_option maxRecDepth 20000 in
theorem gX7_meet_X7_meets : GoodIn wsX7_meet (wsV RX7 110 RX7 yX7_meets wsX7_meets) := goodIn_app (goodIn_of _ (by decide +kernel)) ggX7_meet_X7_meets
theorem dX7_meet_0 : decode cX7_meet 0 = .ok (.aload_n 0, 1) := by decide +kernel
theorem dX7_meet_1 : decode cX7_meet 1 = .ok (.iload_n 1, 1) := by decide +kernel
theorem dX7_meet_2 : decode cX7_meet 2 = .ok (.invokevirtual 107, 3) := by decide +kernel
theorem dX7_meet_5 : decode cX7_meet 5 = .ok (.ifCond .eq 11, 3) := by decide +kernel
theorem dX7_meet_8 : decode cX7_meet 8 = .ok (.aload_n 0, 1) := by decide +kernel
theorem dX7_meet_9 : decode cX7_meet 9 = .ok (.iload_n 2, 1) := by decide +kernel
theorem dX7_meet_10 : decode cX7_meet 10 = .ok (.invokevirtual 107, 3) := by decide +kernel
theorem dX7_meet_13 : decode cX7_meet 13 = .ok (.ifCond .ne 5, 3) := by decide +kernel
theorem dX7_meet_16 : decode cX7_meet 16 = .ok (.iconst (-1), 1) := by decide +kernel
theorem dX7_meet_17 : decode cX7_meet 17 = .ok (.ireturn, 1) := by decide +kernel
theorem dX7_meet_18 : decode cX7_meet 18 = .ok (.iload_n 1, 1) := by decide +kernel
theorem dX7_meet_19 : decode cX7_meet 19 = .ok (.iload_n 2, 1) := by decide +kernel
theorem dX7_meet_20 : decode cX7_meet 20 = .ok (.if_icmp .ne 8, 3) := by decide +kernel
theorem dX7_meet_23 : decode cX7_meet 23 = .ok (.bipush (-3), 2) := by decide +kernel
theorem dX7_meet_25 : decode cX7_meet 25 = .ok (.goto 9, 3) := by decide +kernel
theorem dX7_meet_28 : decode cX7_meet 28 = .ok (.aload_n 0, 1) := by decide +kernel
theorem dX7_meet_29 : decode cX7_meet 29 = .ok (.iload_n 1, 1) := by decide +kernel
theorem dX7_meet_30 : decode cX7_meet 30 = .ok (.iload_n 2, 1) := by decide +kernel
theorem dX7_meet_31 : decode cX7_meet 31 = .ok (.invokevirtual 110, 3) := by decide +kernel
theorem dX7_meet_34 : decode cX7_meet 34 = .ok (.ireturn, 1) := by decide +kernel
theorem dX7_seed_0 : decode cX7_seed 0 = .ok (.aload_n 0, 1) := by decide +kernel
theorem dX7_seed_1 : decode cX7_seed 1 = .ok (.getfield 34, 3) := by decide +kernel
theorem dX7_seed_4 : decode cX7_seed 4 = .ok (.istore_n 2, 1) := by decide +kernel
theorem dX7_seed_5 : decode cX7_seed 5 = .ok (.aload_n 0, 1) := by decide +kernel
theorem dX7_seed_6 : decode cX7_seed 6 = .ok (.iload_n 1, 1) := by decide +kernel
theorem dX7_seed_7 : decode cX7_seed 7 = .ok (.putfield 34, 3) := by decide +kernel
theorem dX7_seed_10 : decode cX7_seed 10 = .ok (.iload_n 2, 1) := by decide +kernel
theorem dX7_seed_11 : decode cX7_seed 11 = .ok (.ireturn, 1) := by decide +kernel
set_option maxRecDepth 20000 in
theorem ggX7_run_X7_within : GoodIn wsX7_run wsX7_within := goodIn_r _ [7] (by decide +kernel) (by decide +kernel)
set_option maxRecDepth 20000 in
theorem gX7_run_X7_within : GoodIn wsX7_run (va_wsS RX7 67 yX7_within wsX7_within) := goodIn_app (goodIn_of _ (by decide +kernel)) ggX7_run_X7_within
set_option maxRecDepth 20000 in
theorem ggX7_run_X7_meets : GoodIn wsX7_run wsX7_meets := goodIn_r _ [11, 12, 13, 14, 15, 16, 17, 18, 19, 20, 21, 22, 6, 23, 24, 25, 26, 27, 28, 29, 30, 31, 32, 33, 34, 35, 36, 37, 38, 39, 40, 41, 42, 43, 44, 45, 46, 47] (by decide +kernel) (by decide +kernel)
set_option maxRecDepth 20000 in
theorem gX7_run_X7_meets : GoodIn wsX7_run (wsV RX7 110 RX7 yX7_meets wsX7_meets) := goodIn_app (goodIn_of _ (by decide +kernel)) ggX7_run_X7_meets
theorem dX7_run_0 : decode cX7_run 0 = .ok (.iload_n 1, 1) := by decide +kernel
theorem dX7_run_1 : decode cX7_run 1 = .ok (.iconst 1, 1) := by decide +kernel
theorem dX7_run_2 : decode cX7_run 2 = .ok (.sipush 1000, 3) := by decide +kernel
theorem dX7_run_5 : decode cX7_run 5 = .ok (.invokestatic 67, 3) := by decide +kernel
theorem dX7_run_8 : decode cX7_run 8 = .ok (.ifCond .ne 6, 3) := by decide +kernel
theorem dX7_run_11 : decode cX7_run 11 = .ok (.bipush (-2), 2) := by decide +kernel
theorem dX7_run_13 : decode cX7_run 13 = .ok (.ireturn, 1) := by decide +kernel
theorem dX7_run_14 : decode cX7_run 14 = .ok (.aload_n 0, 1) := by decide +kernel
theorem dX7_run_15 : decode cX7_run 15 = .ok (.getfield 90, 3) := by decide +kernel
theorem dX7_run_18 : decode cX7_run 18 = .ok (.ifCond .ne 6, 3) := by decide +kernel
theorem dX7_run_21 : decode cX7_run 21 = .ok (.bipush (-3), 2) := by decide +kernel
theorem dX7_run_23 : decode cX7_run 23 = .ok (.ireturn, 1) := by decide +kernel
theorem dX7_run_24 : decode cX7_run 24 = .ok (.iconst 0, 1) := by decide +kernel
theorem dX7_run_25 : decode cX7_run 25 = .ok (.istore_n 2, 1) := by decide +kernel
theorem dX7_run_26 : decode cX7_run 26 = .ok (.iconst 0, 1) := by decide +kernel
theorem dX7_run_27 : decode cX7_run 27 = .ok (.istore_n 3, 1) := by decide +kernel
theorem dX7_run_28 : decode cX7_run 28 = .ok (.iload_n 3, 1) := by decide +kernel
theorem dX7_run_29 : decode cX7_run 29 = .ok (.iload_n 1, 1) := by decide +kernel
theorem dX7_run_30 : decode cX7_run 30 = .ok (.if_icmp .ge 95, 3) := by decide +kernel
theorem dX7_run_33 : decode cX7_run 33 = .ok (.aload_n 0, 1) := by decide +kernel
theorem dX7_run_34 : decode cX7_run 34 = .ok (.ldc 113, 2) := by decide +kernel
theorem dX7_run_36 : decode cX7_run 36 = .ok (.aload_n 0, 1) := by decide +kernel
theorem dX7_run_37 : decode cX7_run 37 = .ok (.getfield 34, 3) := by decide +kernel
theorem dX7_run_40 : decode cX7_run 40 = .ok (.imul, 1) := by decide +kernel
theorem dX7_run_41 : decode cX7_run 41 = .ok (.sipush 12345, 3) := by decide +kernel
theorem dX7_run_44 : decode cX7_run 44 = .ok (.iadd, 1) := by decide +kernel
theorem dX7_run_45 : decode cX7_run 45 = .ok (.putfield 34, 3) := by decide +kernel
theorem dX7_run_48 : decode cX7_run 48 = .ok (.aload_n 0, 1) := by decide +kernel
theorem dX7_run_49 : decode cX7_run 49 = .ok (.getfield 34, 3) := by decide +kernel
theorem dX7_run_52 : decode cX7_run 52 = .ok (.bipush 16, 2) := by decide +kernel
theorem dX7_run_54 : decode cX7_run 54 = .ok (.iushr, 1) := by decide +kernel
theorem dX7_run_55 : decode cX7_run 55 = .ok (.aload_n 0, 1) := by decide +kernel
theorem dX7_run_56 : decode cX7_run 56 = .ok (.getfield 90, 3) := by decide +kernel
theorem dX7_run_59 : decode cX7_run 59 = .ok (.aload_n 0, 1) := by decide +kernel
theorem dX7_run_60 : decode cX7_run 60 = .ok (.getfield 90, 3) := by decide +kernel
theorem dX7_run_63 : decode cX7_run 63 = .ok (.iconst 1, 1) := by decide +kernel
theorem dX7_run_64 : decode cX7_run 64 = .ok (.isub, 1) := by decide +kernel
theorem dX7_run_65 : decode cX7_run 65 = .ok (.imul, 1) := by decide +kernel
theorem dX7_run_66 : decode cX7_run 66 = .ok (.irem, 1) := by decide +kernel
theorem dX7_run_67 : decode cX7_run 67 = .ok (.istore 4, 2) := by decide +kernel
theorem dX7_run_69 : decode cX7_run 69 = .ok (.iload 4, 2) := by decide +kernel
theorem dX7_run_71 : decode cX7_run 71 = .ok (.aload_n 0, 1) := by decide +kernel
theorem dX7_run_72 : decode cX7_run 72 = .ok (.getfield 90, 3) := by decide +kernel
theorem dX7_run_75 : decode cX7_run 75 = .ok (.iconst 1, 1) := by decide +kernel
theorem dX7_run_76 : decode cX7_run 76 = .ok (.isub, 1) := by decide +kernel
theorem dX7_run_77 : decode cX7_run 77 = .ok (.idiv, 1) := by decide +kernel
theorem dX7_run_78 : decode cX7_run 78 = .ok (.istore 5, 2) := by decide +kernel
theorem dX7_run_80 : decode cX7_run 80 = .ok (.iload 4, 2) := by decide +kernel
theorem dX7_run_82 : decode cX7_run 82 = .ok (.aload_n 0, 1) := by decide +kernel
theorem dX7_run_83 : decode cX7_run 83 = .ok (.getfield 90, 3) := by decide +kernel
theorem dX7_run_86 : decode cX7_run 86 = .ok (.iconst 1, 1) := by decide +kernel
theorem dX7_run_87 : decode cX7_run 87 = .ok (.isub, 1) := by decide +kernel
theorem dX7_run_88 : decode cX7_run 88 = .ok (.irem, 1) := by decide +kernel
theorem dX7_run_89 : decode cX7_run 89 = .ok (.istore 6, 2) := by decide +kernel
theorem dX7_run_91 : decode cX7_run 91 = .ok (.iload 6, 2) := by decide +kernel
theorem dX7_run_93 : decode cX7_run 93 = .ok (.iload 6, 2) := by decide +kernel
theorem dX7_run_95 : decode cX7_run 95 = .ok (.iload 5, 2) := by decide +kernel
theorem dX7_run_97 : decode cX7_run 97 = .ok (.if_icmp .lt 7, 3) := by decide +kernel
theorem dX7_run_100 : decode cX7_run 100 = .ok (.iconst 1, 1) := by decide +kernel
theorem dX7_run_101 : decode cX7_run 101 = .ok (.goto 4, 3) := by decide +kernel
theorem dX7_run_104 : decode cX7_run 104 = .ok (.iconst 0, 1) := by decide +kernel
theorem dX7_run_105 : decode cX7_run 105 = .ok (.iadd, 1) := by decide +kernel
theorem dX7_run_106 : decode cX7_run 106 = .ok (.istore 6, 2) := by decide +kernel
theorem dX7_run_108 : decode cX7_run 108 = .ok (.iload_n 2, 1) := by decide +kernel
theorem dX7_run_109 : decode cX7_run 109 = .ok (.aload_n 0, 1) := by decide +kernel
theorem dX7_run_110 : decode cX7_run 110 = .ok (.iload 5, 2) := by decide +kernel
theorem dX7_run_112 : decode cX7_run 112 = .ok (.iload 6, 2) := by decide +kernel
theorem dX7_run_114 : decode cX7_run 114 = .ok (.invokevirtual 110, 3) := by decide +kernel
theorem dX7_run_117 : decode cX7_run 117 = .ok (.iadd, 1) := by decide +kernel
theorem dX7_run_118 : decode cX7_run 118 = .ok (.istore_n 2, 1) := by decide +kernel
theorem dX7_run_119 : decode cX7_run 119 = .ok (.iinc 3 1, 3) := by decide +kernel
theorem dX7_run_122 : decode cX7_run 122 = .ok (.goto (-94), 3) := by decide +kernel
theorem dX7_run_125 : decode cX7_run 125 = .ok (.iload_n 2, 1) := by decide +kernel
theorem dX7_run_126 : decode cX7_run 126 = .ok (.ireturn, 1) := by decide +kernel
theorem dX7_waitOf_0 : decode cX7_waitOf 0 = .ok (.aload_n 0, 1) := by decide +kernel
theorem dX7_waitOf_1 : decode cX7_waitOf 1 = .ok (.getfield 101, 3) := by decide +kernel
theorem dX7_waitOf_4 : decode cX7_waitOf 4 = .ok (.aload_n 0, 1) := by decide +kernel
theorem dX7_waitOf_5 : decode cX7_waitOf 5 = .ok (.getfield 31, 3) := by decide +kernel
theorem dX7_waitOf_8 : decode cX7_waitOf 8 = .ok (.bipush 6, 2) := by decide +kernel
theorem dX7_waitOf_10 : decode cX7_waitOf 10 = .ok (.iload_n 1, 1) := by decide +kernel
theorem dX7_waitOf_11 : decode cX7_waitOf 11 = .ok (.imul, 1) := by decide +kernel
theorem dX7_waitOf_12 : decode cX7_waitOf 12 = .ok (.iload_n 2, 1) := by decide +kernel
theorem dX7_waitOf_13 : decode cX7_waitOf 13 = .ok (.iadd, 1) := by decide +kernel
theorem dX7_waitOf_14 : decode cX7_waitOf 14 = .ok (.iaload, 1) := by decide +kernel
theorem dX7_waitOf_15 : decode cX7_waitOf 15 = .ok (.isub, 1) := by decide +kernel
theorem dX7_waitOf_16 : decode cX7_waitOf 16 = .ok (.ireturn, 1) := by decide +kernel
set_option maxRecDepth 20000 in
theorem ggX7_waits_X7_isAgent : GoodIn wsX7_waits wsX7_isAgent := goodIn_r _ [5, 6, 7, 8, 4, 9, 16, 17, 18, 19, 20, 21, 22, 23, 24, 25, 26, 27, 28, 29, 30, 31, 32, 33, 34, 35, 36, 37, 38] (by decide +kernel) (by decide +kernel)
set_option maxRecDepth 20000 in
theorem gX7_waits_X7_isAgent : GoodIn wsX7_waits (wsV RX7 107 RX7 yX7_isAgent wsX7_isAgent) := goodIn_app (goodIn_of _ (by decide +kernel)) ggX7_waits_X7_isAgent
set_option maxRecDepth 20000 in
theorem ggX7_waits_X7_waitOf : GoodIn wsX7_waits wsX7_waitOf := goodIn_r _ [13, 14, 15, 16, 17, 18, 19, 20, 21, 22, 23, 24, 25, 26, 27, 28, 29, 30, 31, 32, 33, 34, 35, 36, 37, 38] (by decide +kernel) (by decide +kernel)
set_option maxRecDepth 20000 in
theorem gX7_waits_X7_waitOf : GoodIn wsX7_waits (wsV RX7 114 RX7 yX7_waitOf wsX7_waitOf) := goodIn_app (goodIn_of _ (by decide +kernel)) ggX7_waits_X7_waitOf
theorem dX7_waits_0 : decode cX7_waits 0 = .ok (.aload_n 0, 1) := by decide +kernel
theorem dX7_waits_1 : decode cX7_waits 1 = .ok (.iload_n 1, 1) := by decide +kernel
theorem dX7_waits_2 : decode cX7_waits 2 = .ok (.invokevirtual 107, 3) := by decide +kernel
theorem dX7_waits_5 : decode cX7_waits 5 = .ok (.ifCond .eq 11, 3) := by decide +kernel
theorem dX7_waits_8 : decode cX7_waits 8 = .ok (.aload_n 0, 1) := by decide +kernel
theorem dX7_waits_9 : decode cX7_waits 9 = .ok (.iload_n 2, 1) := by decide +kernel
theorem dX7_waits_10 : decode cX7_waits 10 = .ok (.invokevirtual 107, 3) := by decide +kernel
theorem dX7_waits_13 : decode cX7_waits 13 = .ok (.ifCond .ne 5, 3) := by decide +kernel
theorem dX7_waits_16 : decode cX7_waits 16 = .ok (.iconst (-1), 1) := by decide +kernel
theorem dX7_waits_17 : decode cX7_waits 17 = .ok (.ireturn, 1) := by decide +kernel
theorem dX7_waits_18 : decode cX7_waits 18 = .ok (.iload_n 1, 1) := by decide +kernel
theorem dX7_waits_19 : decode cX7_waits 19 = .ok (.iload_n 2, 1) := by decide +kernel
theorem dX7_waits_20 : decode cX7_waits 20 = .ok (.if_icmp .ne 8, 3) := by decide +kernel
theorem dX7_waits_23 : decode cX7_waits 23 = .ok (.bipush (-3), 2) := by decide +kernel
theorem dX7_waits_25 : decode cX7_waits 25 = .ok (.goto 9, 3) := by decide +kernel
theorem dX7_waits_28 : decode cX7_waits 28 = .ok (.aload_n 0, 1) := by decide +kernel
theorem dX7_waits_29 : decode cX7_waits 29 = .ok (.iload_n 1, 1) := by decide +kernel
theorem dX7_waits_30 : decode cX7_waits 30 = .ok (.iload_n 2, 1) := by decide +kernel
theorem dX7_waits_31 : decode cX7_waits 31 = .ok (.invokevirtual 114, 3) := by decide +kernel
theorem dX7_waits_34 : decode cX7_waits 34 = .ok (.ireturn, 1) := by decide +kernel
set_option maxRecDepth 20000 in
theorem ggX7_unfair_X7_within : GoodIn wsX7_unfair wsX7_within := goodIn_r _ [6] (by decide +kernel) (by decide +kernel)
set_option maxRecDepth 20000 in
theorem gX7_unfair_X7_within : GoodIn wsX7_unfair (va_wsS RX7 67 yX7_within wsX7_within) := goodIn_app (goodIn_of _ (by decide +kernel)) ggX7_unfair_X7_within
set_option maxRecDepth 20000 in
theorem ggX7_unfair_X7_waitOf : GoodIn wsX7_unfair wsX7_waitOf := goodIn_r _ [10, 11, 12, 13, 14, 15, 16, 17, 18, 19, 20, 21, 22, 23, 24, 25, 26, 27, 28, 29, 30, 31, 32, 33, 34, 35] (by decide +kernel) (by decide +kernel)
set_option maxRecDepth 20000 in
theorem gX7_unfair_X7_waitOf : GoodIn wsX7_unfair (wsV RX7 114 RX7 yX7_waitOf wsX7_waitOf) := goodIn_app (goodIn_of _ (by decide +kernel)) ggX7_unfair_X7_waitOf
theorem dX7_unfair_0 : decode cX7_unfair 0 = .ok (.iload_n 1, 1) := by decide +kernel
theorem dX7_unfair_1 : decode cX7_unfair 1 = .ok (.iconst 0, 1) := by decide +kernel
theorem dX7_unfair_2 : decode cX7_unfair 2 = .ok (.ldc 117, 2) := by decide +kernel
theorem dX7_unfair_4 : decode cX7_unfair 4 = .ok (.invokestatic 67, 3) := by decide +kernel
theorem dX7_unfair_7 : decode cX7_unfair 7 = .ok (.ifCond .eq 12, 3) := by decide +kernel
theorem dX7_unfair_10 : decode cX7_unfair 10 = .ok (.iload_n 2, 1) := by decide +kernel
theorem dX7_unfair_11 : decode cX7_unfair 11 = .ok (.iconst 0, 1) := by decide +kernel
theorem dX7_unfair_12 : decode cX7_unfair 12 = .ok (.iconst 1, 1) := by decide +kernel
theorem dX7_unfair_13 : decode cX7_unfair 13 = .ok (.invokestatic 67, 3) := by decide +kernel
theorem dX7_unfair_16 : decode cX7_unfair 16 = .ok (.ifCond .ne 6, 3) := by decide +kernel
theorem dX7_unfair_19 : decode cX7_unfair 19 = .ok (.bipush (-2), 2) := by decide +kernel
theorem dX7_unfair_21 : decode cX7_unfair 21 = .ok (.ireturn, 1) := by decide +kernel
theorem dX7_unfair_22 : decode cX7_unfair 22 = .ok (.aload_n 0, 1) := by decide +kernel
theorem dX7_unfair_23 : decode cX7_unfair 23 = .ok (.getfield 90, 3) := by decide +kernel
theorem dX7_unfair_26 : decode cX7_unfair 26 = .ok (.ifCond .ne 6, 3) := by decide +kernel
theorem dX7_unfair_29 : decode cX7_unfair 29 = .ok (.bipush (-3), 2) := by decide +kernel
theorem dX7_unfair_31 : decode cX7_unfair 31 = .ok (.ireturn, 1) := by decide +kernel
theorem dX7_unfair_32 : decode cX7_unfair 32 = .ok (.iconst 0, 1) := by decide +kernel
theorem dX7_unfair_33 : decode cX7_unfair 33 = .ok (.istore_n 3, 1) := by decide +kernel
theorem dX7_unfair_34 : decode cX7_unfair 34 = .ok (.bipush (-9), 2) := by decide +kernel
theorem dX7_unfair_36 : decode cX7_unfair 36 = .ok (.istore 4, 2) := by decide +kernel
theorem dX7_unfair_38 : decode cX7_unfair 38 = .ok (.aload_n 0, 1) := by decide +kernel
theorem dX7_unfair_39 : decode cX7_unfair 39 = .ok (.getfield 90, 3) := by decide +kernel
theorem dX7_unfair_42 : decode cX7_unfair 42 = .ok (.iconst 1, 1) := by decide +kernel
theorem dX7_unfair_43 : decode cX7_unfair 43 = .ok (.isub, 1) := by decide +kernel
theorem dX7_unfair_44 : decode cX7_unfair 44 = .ok (.istore 5, 2) := by decide +kernel
theorem dX7_unfair_46 : decode cX7_unfair 46 = .ok (.iload 5, 2) := by decide +kernel
theorem dX7_unfair_48 : decode cX7_unfair 48 = .ok (.ifCond .lt 60, 3) := by decide +kernel
theorem dX7_unfair_51 : decode cX7_unfair 51 = .ok (.aload_n 0, 1) := by decide +kernel
theorem dX7_unfair_52 : decode cX7_unfair 52 = .ok (.getfield 90, 3) := by decide +kernel
theorem dX7_unfair_55 : decode cX7_unfair 55 = .ok (.iconst 1, 1) := by decide +kernel
theorem dX7_unfair_56 : decode cX7_unfair 56 = .ok (.isub, 1) := by decide +kernel
theorem dX7_unfair_57 : decode cX7_unfair 57 = .ok (.istore 6, 2) := by decide +kernel
theorem dX7_unfair_59 : decode cX7_unfair 59 = .ok (.iload 6, 2) := by decide +kernel
theorem dX7_unfair_61 : decode cX7_unfair 61 = .ok (.ifCond .lt 41, 3) := by decide +kernel
theorem dX7_unfair_64 : decode cX7_unfair 64 = .ok (.iload 5, 2) := by decide +kernel
theorem dX7_unfair_66 : decode cX7_unfair 66 = .ok (.iload 6, 2) := by decide +kernel
theorem dX7_unfair_68 : decode cX7_unfair 68 = .ok (.if_icmp .eq 28, 3) := by decide +kernel
theorem dX7_unfair_71 : decode cX7_unfair 71 = .ok (.aload_n 0, 1) := by decide +kernel
theorem dX7_unfair_72 : decode cX7_unfair 72 = .ok (.iload 5, 2) := by decide +kernel
theorem dX7_unfair_74 : decode cX7_unfair 74 = .ok (.iload 6, 2) := by decide +kernel
theorem dX7_unfair_76 : decode cX7_unfair 76 = .ok (.invokevirtual 114, 3) := by decide +kernel
theorem dX7_unfair_79 : decode cX7_unfair 79 = .ok (.iload_n 1, 1) := by decide +kernel
theorem dX7_unfair_80 : decode cX7_unfair 80 = .ok (.if_icmp .le 16, 3) := by decide +kernel
theorem dX7_unfair_83 : decode cX7_unfair 83 = .ok (.iinc 3 1, 3) := by decide +kernel
theorem dX7_unfair_86 : decode cX7_unfair 86 = .ok (.bipush 10, 2) := by decide +kernel
theorem dX7_unfair_88 : decode cX7_unfair 88 = .ok (.iload 5, 2) := by decide +kernel
theorem dX7_unfair_90 : decode cX7_unfair 90 = .ok (.imul, 1) := by decide +kernel
theorem dX7_unfair_91 : decode cX7_unfair 91 = .ok (.iload 6, 2) := by decide +kernel
theorem dX7_unfair_93 : decode cX7_unfair 93 = .ok (.iadd, 1) := by decide +kernel
theorem dX7_unfair_94 : decode cX7_unfair 94 = .ok (.istore 4, 2) := by decide +kernel
theorem dX7_unfair_96 : decode cX7_unfair 96 = .ok (.iinc 6 (-1), 3) := by decide +kernel
theorem dX7_unfair_99 : decode cX7_unfair 99 = .ok (.goto (-40), 3) := by decide +kernel
theorem dX7_unfair_102 : decode cX7_unfair 102 = .ok (.iinc 5 (-1), 3) := by decide +kernel
theorem dX7_unfair_105 : decode cX7_unfair 105 = .ok (.goto (-59), 3) := by decide +kernel
theorem dX7_unfair_108 : decode cX7_unfair 108 = .ok (.iload_n 2, 1) := by decide +kernel
theorem dX7_unfair_109 : decode cX7_unfair 109 = .ok (.ifCond .ne 7, 3) := by decide +kernel
theorem dX7_unfair_112 : decode cX7_unfair 112 = .ok (.iload_n 3, 1) := by decide +kernel
theorem dX7_unfair_113 : decode cX7_unfair 113 = .ok (.goto 5, 3) := by decide +kernel
theorem dX7_unfair_116 : decode cX7_unfair 116 = .ok (.iload 4, 2) := by decide +kernel
theorem dX7_unfair_118 : decode cX7_unfair 118 = .ok (.ireturn, 1) := by decide +kernel
set_option maxRecDepth 20000 in
theorem ggX7_in_X7_isState : GoodIn wsX7_in wsX7_isState := goodIn_r _ [6, 7, 8, 5, 9] (by decide +kernel) (by decide +kernel)
set_option maxRecDepth 20000 in
theorem gX7_in_X7_isState : GoodIn wsX7_in (va_wsS RX7 82 yX7_isState wsX7_isState) := goodIn_app (goodIn_of _ (by decide +kernel)) ggX7_in_X7_isState
theorem dX7_in_0 : decode cX7_in 0 = .ok (.iload_n 1, 1) := by decide +kernel
theorem dX7_in_1 : decode cX7_in 1 = .ok (.invokestatic 82, 3) := by decide +kernel
theorem dX7_in_4 : decode cX7_in 4 = .ok (.ifCond .ne 5, 3) := by decide +kernel
theorem dX7_in_7 : decode cX7_in 7 = .ok (.iconst (-1), 1) := by decide +kernel
theorem dX7_in_8 : decode cX7_in 8 = .ok (.ireturn, 1) := by decide +kernel
theorem dX7_in_9 : decode cX7_in 9 = .ok (.iconst 0, 1) := by decide +kernel
theorem dX7_in_10 : decode cX7_in 10 = .ok (.istore_n 2, 1) := by decide +kernel
theorem dX7_in_11 : decode cX7_in 11 = .ok (.iconst 0, 1) := by decide +kernel
theorem dX7_in_12 : decode cX7_in 12 = .ok (.istore_n 3, 1) := by decide +kernel
theorem dX7_in_13 : decode cX7_in 13 = .ok (.iload_n 3, 1) := by decide +kernel
theorem dX7_in_14 : decode cX7_in 14 = .ok (.aload_n 0, 1) := by decide +kernel
theorem dX7_in_15 : decode cX7_in 15 = .ok (.getfield 90, 3) := by decide +kernel
theorem dX7_in_18 : decode cX7_in 18 = .ok (.if_icmp .ge 27, 3) := by decide +kernel
theorem dX7_in_21 : decode cX7_in 21 = .ok (.iload_n 2, 1) := by decide +kernel
theorem dX7_in_22 : decode cX7_in 22 = .ok (.aload_n 0, 1) := by decide +kernel
theorem dX7_in_23 : decode cX7_in 23 = .ok (.getfield 28, 3) := by decide +kernel
theorem dX7_in_26 : decode cX7_in 26 = .ok (.iload_n 3, 1) := by decide +kernel
theorem dX7_in_27 : decode cX7_in 27 = .ok (.iaload, 1) := by decide +kernel
theorem dX7_in_28 : decode cX7_in 28 = .ok (.iload_n 1, 1) := by decide +kernel
theorem dX7_in_29 : decode cX7_in 29 = .ok (.if_icmp .ne 7, 3) := by decide +kernel
theorem dX7_in_32 : decode cX7_in 32 = .ok (.iconst 1, 1) := by decide +kernel
theorem dX7_in_33 : decode cX7_in 33 = .ok (.goto 4, 3) := by decide +kernel
theorem dX7_in_36 : decode cX7_in 36 = .ok (.iconst 0, 1) := by decide +kernel
theorem dX7_in_37 : decode cX7_in 37 = .ok (.iadd, 1) := by decide +kernel
theorem dX7_in_38 : decode cX7_in 38 = .ok (.istore_n 2, 1) := by decide +kernel
theorem dX7_in_39 : decode cX7_in 39 = .ok (.iinc 3 1, 3) := by decide +kernel
theorem dX7_in_42 : decode cX7_in 42 = .ok (.goto (-29), 3) := by decide +kernel
theorem dX7_in_45 : decode cX7_in 45 = .ok (.iload_n 2, 1) := by decide +kernel
theorem dX7_in_46 : decode cX7_in 46 = .ok (.ireturn, 1) := by decide +kernel
theorem dX7_codeAt_0 : decode cX7_codeAt 0 = .ok (.iconst 0, 1) := by decide +kernel
theorem dX7_codeAt_1 : decode cX7_codeAt 1 = .ok (.istore_n 2, 1) := by decide +kernel
theorem dX7_codeAt_2 : decode cX7_codeAt 2 = .ok (.iconst 0, 1) := by decide +kernel
theorem dX7_codeAt_3 : decode cX7_codeAt 3 = .ok (.istore_n 3, 1) := by decide +kernel
theorem dX7_codeAt_4 : decode cX7_codeAt 4 = .ok (.iload_n 3, 1) := by decide +kernel
theorem dX7_codeAt_5 : decode cX7_codeAt 5 = .ok (.bipush 6, 2) := by decide +kernel
theorem dX7_codeAt_7 : decode cX7_codeAt 7 = .ok (.if_icmp .ge 26, 3) := by decide +kernel
theorem dX7_codeAt_10 : decode cX7_codeAt 10 = .ok (.bipush 7, 2) := by decide +kernel
theorem dX7_codeAt_12 : decode cX7_codeAt 12 = .ok (.iload_n 2, 1) := by decide +kernel
theorem dX7_codeAt_13 : decode cX7_codeAt 13 = .ok (.imul, 1) := by decide +kernel
theorem dX7_codeAt_14 : decode cX7_codeAt 14 = .ok (.aload_n 0, 1) := by decide +kernel
theorem dX7_codeAt_15 : decode cX7_codeAt 15 = .ok (.getfield 38, 3) := by decide +kernel
theorem dX7_codeAt_18 : decode cX7_codeAt 18 = .ok (.bipush 6, 2) := by decide +kernel
theorem dX7_codeAt_20 : decode cX7_codeAt 20 = .ok (.iload_n 1, 1) := by decide +kernel
theorem dX7_codeAt_21 : decode cX7_codeAt 21 = .ok (.imul, 1) := by decide +kernel
theorem dX7_codeAt_22 : decode cX7_codeAt 22 = .ok (.iload_n 3, 1) := by decide +kernel
theorem dX7_codeAt_23 : decode cX7_codeAt 23 = .ok (.iadd, 1) := by decide +kernel
theorem dX7_codeAt_24 : decode cX7_codeAt 24 = .ok (.iaload, 1) := by decide +kernel
theorem dX7_codeAt_25 : decode cX7_codeAt 25 = .ok (.iadd, 1) := by decide +kernel
theorem dX7_codeAt_26 : decode cX7_codeAt 26 = .ok (.istore_n 2, 1) := by decide +kernel
theorem dX7_codeAt_27 : decode cX7_codeAt 27 = .ok (.iinc 3 1, 3) := by decide +kernel
theorem dX7_codeAt_30 : decode cX7_codeAt 30 = .ok (.goto (-26), 3) := by decide +kernel
theorem dX7_codeAt_33 : decode cX7_codeAt 33 = .ok (.iload_n 2, 1) := by decide +kernel
theorem dX7_codeAt_34 : decode cX7_codeAt 34 = .ok (.ireturn, 1) := by decide +kernel
set_option maxRecDepth 20000 in
theorem ggX7_takesOn_X7_codeAt : GoodIn wsX7_takesOn wsX7_codeAt := goodIn_r _ [8, 9, 10, 11, 12, 13, 14, 15, 16, 17, 18, 19, 20, 21, 22, 23, 24, 25, 26, 27, 28, 29, 30, 31, 32] (by decide +kernel) (by decide +kernel)
set_option maxRecDepth 20000 in
theorem gX7_takesOn_X7_codeAt : GoodIn wsX7_takesOn (wsV RX7 121 RX7 yX7_codeAt wsX7_codeAt) := goodIn_app (goodIn_of _ (by decide +kernel)) ggX7_takesOn_X7_codeAt
theorem dX7_takesOn_0 : decode cX7_takesOn 0 = .ok (.aload_n 0, 1) := by decide +kernel
theorem dX7_takesOn_1 : decode cX7_takesOn 1 = .ok (.aload_n 0, 1) := by decide +kernel
theorem dX7_takesOn_2 : decode cX7_takesOn 2 = .ok (.getfield 118, 3) := by decide +kernel
theorem dX7_takesOn_5 : decode cX7_takesOn 5 = .ok (.invokevirtual 121, 3) := by decide +kernel
theorem dX7_takesOn_8 : decode cX7_takesOn 8 = .ok (.istore_n 2, 1) := by decide +kernel
theorem dX7_takesOn_9 : decode cX7_takesOn 9 = .ok (.iconst 0, 1) := by decide +kernel
theorem dX7_takesOn_10 : decode cX7_takesOn 10 = .ok (.istore_n 3, 1) := by decide +kernel
theorem dX7_takesOn_11 : decode cX7_takesOn 11 = .ok (.iload_n 3, 1) := by decide +kernel
theorem dX7_takesOn_12 : decode cX7_takesOn 12 = .ok (.aload_n 0, 1) := by decide +kernel
theorem dX7_takesOn_13 : decode cX7_takesOn 13 = .ok (.getfield 118, 3) := by decide +kernel
theorem dX7_takesOn_16 : decode cX7_takesOn 16 = .ok (.if_icmp .ge 21, 3) := by decide +kernel
theorem dX7_takesOn_19 : decode cX7_takesOn 19 = .ok (.aload_n 0, 1) := by decide +kernel
theorem dX7_takesOn_20 : decode cX7_takesOn 20 = .ok (.getfield 41, 3) := by decide +kernel
theorem dX7_takesOn_23 : decode cX7_takesOn 23 = .ok (.iload_n 3, 1) := by decide +kernel
theorem dX7_takesOn_24 : decode cX7_takesOn 24 = .ok (.iaload, 1) := by decide +kernel
theorem dX7_takesOn_25 : decode cX7_takesOn 25 = .ok (.iload_n 2, 1) := by decide +kernel
theorem dX7_takesOn_26 : decode cX7_takesOn 26 = .ok (.if_icmp .ne 5, 3) := by decide +kernel
theorem dX7_takesOn_29 : decode cX7_takesOn 29 = .ok (.iload_n 3, 1) := by decide +kernel
theorem dX7_takesOn_30 : decode cX7_takesOn 30 = .ok (.ireturn, 1) := by decide +kernel
theorem dX7_takesOn_31 : decode cX7_takesOn 31 = .ok (.iinc 3 1, 3) := by decide +kernel
theorem dX7_takesOn_34 : decode cX7_takesOn 34 = .ok (.goto (-23), 3) := by decide +kernel
theorem dX7_takesOn_37 : decode cX7_takesOn 37 = .ok (.aload_n 0, 1) := by decide +kernel
theorem dX7_takesOn_38 : decode cX7_takesOn 38 = .ok (.getfield 41, 3) := by decide +kernel
theorem dX7_takesOn_41 : decode cX7_takesOn 41 = .ok (.aload_n 0, 1) := by decide +kernel
theorem dX7_takesOn_42 : decode cX7_takesOn 42 = .ok (.getfield 118, 3) := by decide +kernel
theorem dX7_takesOn_45 : decode cX7_takesOn 45 = .ok (.iload_n 2, 1) := by decide +kernel
theorem dX7_takesOn_46 : decode cX7_takesOn 46 = .ok (.iastore, 1) := by decide +kernel
theorem dX7_takesOn_47 : decode cX7_takesOn 47 = .ok (.aload_n 0, 1) := by decide +kernel
theorem dX7_takesOn_48 : decode cX7_takesOn 48 = .ok (.getfield 44, 3) := by decide +kernel
theorem dX7_takesOn_51 : decode cX7_takesOn 51 = .ok (.aload_n 0, 1) := by decide +kernel
theorem dX7_takesOn_52 : decode cX7_takesOn 52 = .ok (.getfield 118, 3) := by decide +kernel
theorem dX7_takesOn_55 : decode cX7_takesOn 55 = .ok (.iload_n 1, 1) := by decide +kernel
theorem dX7_takesOn_56 : decode cX7_takesOn 56 = .ok (.iastore, 1) := by decide +kernel
theorem dX7_takesOn_57 : decode cX7_takesOn 57 = .ok (.aload_n 0, 1) := by decide +kernel
theorem dX7_takesOn_58 : decode cX7_takesOn 58 = .ok (.dup, 1) := by decide +kernel
theorem dX7_takesOn_59 : decode cX7_takesOn 59 = .ok (.getfield 118, 3) := by decide +kernel
theorem dX7_takesOn_62 : decode cX7_takesOn 62 = .ok (.iconst 1, 1) := by decide +kernel
theorem dX7_takesOn_63 : decode cX7_takesOn 63 = .ok (.iadd, 1) := by decide +kernel
theorem dX7_takesOn_64 : decode cX7_takesOn 64 = .ok (.putfield 118, 3) := by decide +kernel
theorem dX7_takesOn_67 : decode cX7_takesOn 67 = .ok (.aload_n 0, 1) := by decide +kernel
theorem dX7_takesOn_68 : decode cX7_takesOn 68 = .ok (.getfield 118, 3) := by decide +kernel
theorem dX7_takesOn_71 : decode cX7_takesOn 71 = .ok (.iconst 1, 1) := by decide +kernel
theorem dX7_takesOn_72 : decode cX7_takesOn 72 = .ok (.isub, 1) := by decide +kernel
theorem dX7_takesOn_73 : decode cX7_takesOn 73 = .ok (.ireturn, 1) := by decide +kernel
theorem dX7_canMeet_0 : decode cX7_canMeet 0 = .ok (.aload_n 0, 1) := by decide +kernel
theorem dX7_canMeet_1 : decode cX7_canMeet 1 = .ok (.getfield 38, 3) := by decide +kernel
theorem dX7_canMeet_4 : decode cX7_canMeet 4 = .ok (.bipush 6, 2) := by decide +kernel
theorem dX7_canMeet_6 : decode cX7_canMeet 6 = .ok (.iload_n 1, 1) := by decide +kernel
theorem dX7_canMeet_7 : decode cX7_canMeet 7 = .ok (.imul, 1) := by decide +kernel
theorem dX7_canMeet_8 : decode cX7_canMeet 8 = .ok (.iload_n 2, 1) := by decide +kernel
theorem dX7_canMeet_9 : decode cX7_canMeet 9 = .ok (.iadd, 1) := by decide +kernel
theorem dX7_canMeet_10 : decode cX7_canMeet 10 = .ok (.iaload, 1) := by decide +kernel
theorem dX7_canMeet_11 : decode cX7_canMeet 11 = .ok (.istore 4, 2) := by decide +kernel
theorem dX7_canMeet_13 : decode cX7_canMeet 13 = .ok (.aload_n 0, 1) := by decide +kernel
theorem dX7_canMeet_14 : decode cX7_canMeet 14 = .ok (.getfield 38, 3) := by decide +kernel
theorem dX7_canMeet_17 : decode cX7_canMeet 17 = .ok (.bipush 6, 2) := by decide +kernel
theorem dX7_canMeet_19 : decode cX7_canMeet 19 = .ok (.iload_n 1, 1) := by decide +kernel
theorem dX7_canMeet_20 : decode cX7_canMeet 20 = .ok (.imul, 1) := by decide +kernel
theorem dX7_canMeet_21 : decode cX7_canMeet 21 = .ok (.iload_n 3, 1) := by decide +kernel
theorem dX7_canMeet_22 : decode cX7_canMeet 22 = .ok (.iadd, 1) := by decide +kernel
theorem dX7_canMeet_23 : decode cX7_canMeet 23 = .ok (.iaload, 1) := by decide +kernel
theorem dX7_canMeet_24 : decode cX7_canMeet 24 = .ok (.istore 5, 2) := by decide +kernel
theorem dX7_canMeet_26 : decode cX7_canMeet 26 = .ok (.iload_n 2, 1) := by decide +kernel
theorem dX7_canMeet_27 : decode cX7_canMeet 27 = .ok (.iload_n 3, 1) := by decide +kernel
theorem dX7_canMeet_28 : decode cX7_canMeet 28 = .ok (.if_icmp .ne 17, 3) := by decide +kernel
theorem dX7_canMeet_31 : decode cX7_canMeet 31 = .ok (.iload 4, 2) := by decide +kernel
theorem dX7_canMeet_33 : decode cX7_canMeet 33 = .ok (.iconst 1, 1) := by decide +kernel
theorem dX7_canMeet_34 : decode cX7_canMeet 34 = .ok (.if_icmp .le 7, 3) := by decide +kernel
theorem dX7_canMeet_37 : decode cX7_canMeet 37 = .ok (.iconst 1, 1) := by decide +kernel
theorem dX7_canMeet_38 : decode cX7_canMeet 38 = .ok (.goto 22, 3) := by decide +kernel
theorem dX7_canMeet_41 : decode cX7_canMeet 41 = .ok (.iconst 0, 1) := by decide +kernel
theorem dX7_canMeet_42 : decode cX7_canMeet 42 = .ok (.goto 18, 3) := by decide +kernel
theorem dX7_canMeet_45 : decode cX7_canMeet 45 = .ok (.iload 4, 2) := by decide +kernel
theorem dX7_canMeet_47 : decode cX7_canMeet 47 = .ok (.ifCond .le 12, 3) := by decide +kernel
theorem dX7_canMeet_50 : decode cX7_canMeet 50 = .ok (.iload 5, 2) := by decide +kernel
theorem dX7_canMeet_52 : decode cX7_canMeet 52 = .ok (.ifCond .le 7, 3) := by decide +kernel
theorem dX7_canMeet_55 : decode cX7_canMeet 55 = .ok (.iconst 1, 1) := by decide +kernel
theorem dX7_canMeet_56 : decode cX7_canMeet 56 = .ok (.goto 4, 3) := by decide +kernel
theorem dX7_canMeet_59 : decode cX7_canMeet 59 = .ok (.iconst 0, 1) := by decide +kernel
theorem dX7_canMeet_60 : decode cX7_canMeet 60 = .ok (.ireturn, 1) := by decide +kernel
theorem dX7_laysNext_0 : decode cX7_laysNext 0 = .ok (.bipush 6, 2) := by decide +kernel
theorem dX7_laysNext_2 : decode cX7_laysNext 2 = .ok (.iload_n 1, 1) := by decide +kernel
theorem dX7_laysNext_3 : decode cX7_laysNext 3 = .ok (.imul, 1) := by decide +kernel
theorem dX7_laysNext_4 : decode cX7_laysNext 4 = .ok (.istore_n 3, 1) := by decide +kernel
theorem dX7_laysNext_5 : decode cX7_laysNext 5 = .ok (.bipush 6, 2) := by decide +kernel
theorem dX7_laysNext_7 : decode cX7_laysNext 7 = .ok (.aload_n 0, 1) := by decide +kernel
theorem dX7_laysNext_8 : decode cX7_laysNext 8 = .ok (.getfield 118, 3) := by decide +kernel
theorem dX7_laysNext_11 : decode cX7_laysNext 11 = .ok (.imul, 1) := by decide +kernel
theorem dX7_laysNext_12 : decode cX7_laysNext 12 = .ok (.istore 4, 2) := by decide +kernel
theorem dX7_laysNext_14 : decode cX7_laysNext 14 = .ok (.iconst 0, 1) := by decide +kernel
theorem dX7_laysNext_15 : decode cX7_laysNext 15 = .ok (.istore 5, 2) := by decide +kernel
theorem dX7_laysNext_17 : decode cX7_laysNext 17 = .ok (.iload 5, 2) := by decide +kernel
theorem dX7_laysNext_19 : decode cX7_laysNext 19 = .ok (.bipush 6, 2) := by decide +kernel
theorem dX7_laysNext_21 : decode cX7_laysNext 21 = .ok (.if_icmp .ge 28, 3) := by decide +kernel
theorem dX7_laysNext_24 : decode cX7_laysNext 24 = .ok (.aload_n 0, 1) := by decide +kernel
theorem dX7_laysNext_25 : decode cX7_laysNext 25 = .ok (.getfield 38, 3) := by decide +kernel
theorem dX7_laysNext_28 : decode cX7_laysNext 28 = .ok (.iload 4, 2) := by decide +kernel
theorem dX7_laysNext_30 : decode cX7_laysNext 30 = .ok (.iload 5, 2) := by decide +kernel
theorem dX7_laysNext_32 : decode cX7_laysNext 32 = .ok (.iadd, 1) := by decide +kernel
theorem dX7_laysNext_33 : decode cX7_laysNext 33 = .ok (.aload_n 0, 1) := by decide +kernel
theorem dX7_laysNext_34 : decode cX7_laysNext 34 = .ok (.getfield 38, 3) := by decide +kernel
theorem dX7_laysNext_37 : decode cX7_laysNext 37 = .ok (.iload_n 3, 1) := by decide +kernel
theorem dX7_laysNext_38 : decode cX7_laysNext 38 = .ok (.iload 5, 2) := by decide +kernel
theorem dX7_laysNext_40 : decode cX7_laysNext 40 = .ok (.iadd, 1) := by decide +kernel
theorem dX7_laysNext_41 : decode cX7_laysNext 41 = .ok (.iaload, 1) := by decide +kernel
theorem dX7_laysNext_42 : decode cX7_laysNext 42 = .ok (.iastore, 1) := by decide +kernel
theorem dX7_laysNext_43 : decode cX7_laysNext 43 = .ok (.iinc 5 1, 3) := by decide +kernel
theorem dX7_laysNext_46 : decode cX7_laysNext 46 = .ok (.goto (-29), 3) := by decide +kernel
theorem dX7_laysNext_49 : decode cX7_laysNext 49 = .ok (.aload_n 0, 1) := by decide +kernel
theorem dX7_laysNext_50 : decode cX7_laysNext 50 = .ok (.getfield 38, 3) := by decide +kernel
theorem dX7_laysNext_53 : decode cX7_laysNext 53 = .ok (.iload 4, 2) := by decide +kernel
theorem dX7_laysNext_55 : decode cX7_laysNext 55 = .ok (.aload_n 0, 1) := by decide +kernel
theorem dX7_laysNext_56 : decode cX7_laysNext 56 = .ok (.getfield 7, 3) := by decide +kernel
theorem dX7_laysNext_59 : decode cX7_laysNext 59 = .ok (.iload_n 2, 1) := by decide +kernel
theorem dX7_laysNext_60 : decode cX7_laysNext 60 = .ok (.iaload, 1) := by decide +kernel
theorem dX7_laysNext_61 : decode cX7_laysNext 61 = .ok (.iadd, 1) := by decide +kernel
theorem dX7_laysNext_62 : decode cX7_laysNext 62 = .ok (.dup2, 1) := by decide +kernel
theorem dX7_laysNext_63 : decode cX7_laysNext 63 = .ok (.iaload, 1) := by decide +kernel
theorem dX7_laysNext_64 : decode cX7_laysNext 64 = .ok (.iconst 1, 1) := by decide +kernel
theorem dX7_laysNext_65 : decode cX7_laysNext 65 = .ok (.isub, 1) := by decide +kernel
theorem dX7_laysNext_66 : decode cX7_laysNext 66 = .ok (.iastore, 1) := by decide +kernel
theorem dX7_laysNext_67 : decode cX7_laysNext 67 = .ok (.aload_n 0, 1) := by decide +kernel
theorem dX7_laysNext_68 : decode cX7_laysNext 68 = .ok (.getfield 38, 3) := by decide +kernel
theorem dX7_laysNext_71 : decode cX7_laysNext 71 = .ok (.iload 4, 2) := by decide +kernel
theorem dX7_laysNext_73 : decode cX7_laysNext 73 = .ok (.aload_n 0, 1) := by decide +kernel
theorem dX7_laysNext_74 : decode cX7_laysNext 74 = .ok (.getfield 13, 3) := by decide +kernel
theorem dX7_laysNext_77 : decode cX7_laysNext 77 = .ok (.iload_n 2, 1) := by decide +kernel
theorem dX7_laysNext_78 : decode cX7_laysNext 78 = .ok (.iaload, 1) := by decide +kernel
theorem dX7_laysNext_79 : decode cX7_laysNext 79 = .ok (.iadd, 1) := by decide +kernel
theorem dX7_laysNext_80 : decode cX7_laysNext 80 = .ok (.dup2, 1) := by decide +kernel
theorem dX7_laysNext_81 : decode cX7_laysNext 81 = .ok (.iaload, 1) := by decide +kernel
theorem dX7_laysNext_82 : decode cX7_laysNext 82 = .ok (.iconst 1, 1) := by decide +kernel
theorem dX7_laysNext_83 : decode cX7_laysNext 83 = .ok (.isub, 1) := by decide +kernel
theorem dX7_laysNext_84 : decode cX7_laysNext 84 = .ok (.iastore, 1) := by decide +kernel
theorem dX7_laysNext_85 : decode cX7_laysNext 85 = .ok (.aload_n 0, 1) := by decide +kernel
theorem dX7_laysNext_86 : decode cX7_laysNext 86 = .ok (.getfield 38, 3) := by decide +kernel
theorem dX7_laysNext_89 : decode cX7_laysNext 89 = .ok (.iload 4, 2) := by decide +kernel
theorem dX7_laysNext_91 : decode cX7_laysNext 91 = .ok (.aload_n 0, 1) := by decide +kernel
theorem dX7_laysNext_92 : decode cX7_laysNext 92 = .ok (.getfield 16, 3) := by decide +kernel
theorem dX7_laysNext_95 : decode cX7_laysNext 95 = .ok (.iload_n 2, 1) := by decide +kernel
theorem dX7_laysNext_96 : decode cX7_laysNext 96 = .ok (.iaload, 1) := by decide +kernel
theorem dX7_laysNext_97 : decode cX7_laysNext 97 = .ok (.iadd, 1) := by decide +kernel
theorem dX7_laysNext_98 : decode cX7_laysNext 98 = .ok (.dup2, 1) := by decide +kernel
theorem dX7_laysNext_99 : decode cX7_laysNext 99 = .ok (.iaload, 1) := by decide +kernel
theorem dX7_laysNext_100 : decode cX7_laysNext 100 = .ok (.iconst 1, 1) := by decide +kernel
theorem dX7_laysNext_101 : decode cX7_laysNext 101 = .ok (.iadd, 1) := by decide +kernel
theorem dX7_laysNext_102 : decode cX7_laysNext 102 = .ok (.iastore, 1) := by decide +kernel
theorem dX7_laysNext_103 : decode cX7_laysNext 103 = .ok (.aload_n 0, 1) := by decide +kernel
theorem dX7_laysNext_104 : decode cX7_laysNext 104 = .ok (.getfield 38, 3) := by decide +kernel
theorem dX7_laysNext_107 : decode cX7_laysNext 107 = .ok (.iload 4, 2) := by decide +kernel
theorem dX7_laysNext_109 : decode cX7_laysNext 109 = .ok (.aload_n 0, 1) := by decide +kernel
theorem dX7_laysNext_110 : decode cX7_laysNext 110 = .ok (.getfield 19, 3) := by decide +kernel
theorem dX7_laysNext_113 : decode cX7_laysNext 113 = .ok (.iload_n 2, 1) := by decide +kernel
theorem dX7_laysNext_114 : decode cX7_laysNext 114 = .ok (.iaload, 1) := by decide +kernel
theorem dX7_laysNext_115 : decode cX7_laysNext 115 = .ok (.iadd, 1) := by decide +kernel
theorem dX7_laysNext_116 : decode cX7_laysNext 116 = .ok (.dup2, 1) := by decide +kernel
theorem dX7_laysNext_117 : decode cX7_laysNext 117 = .ok (.iaload, 1) := by decide +kernel
theorem dX7_laysNext_118 : decode cX7_laysNext 118 = .ok (.iconst 1, 1) := by decide +kernel
theorem dX7_laysNext_119 : decode cX7_laysNext 119 = .ok (.iadd, 1) := by decide +kernel
theorem dX7_laysNext_120 : decode cX7_laysNext 120 = .ok (.iastore, 1) := by decide +kernel
theorem dX7_laysNext_121 : decode cX7_laysNext 121 = .ok (.return_, 1) := by decide +kernel
theorem dX7_isChange_0 : decode cX7_isChange 0 = .ok (.aload_n 0, 1) := by decide +kernel
theorem dX7_isChange_1 : decode cX7_isChange 1 = .ok (.getfield 16, 3) := by decide +kernel
theorem dX7_isChange_4 : decode cX7_isChange 4 = .ok (.iload_n 1, 1) := by decide +kernel
theorem dX7_isChange_5 : decode cX7_isChange 5 = .ok (.iaload, 1) := by decide +kernel
theorem dX7_isChange_6 : decode cX7_isChange 6 = .ok (.aload_n 0, 1) := by decide +kernel
theorem dX7_isChange_7 : decode cX7_isChange 7 = .ok (.getfield 7, 3) := by decide +kernel
theorem dX7_isChange_10 : decode cX7_isChange 10 = .ok (.iload_n 1, 1) := by decide +kernel
theorem dX7_isChange_11 : decode cX7_isChange 11 = .ok (.iaload, 1) := by decide +kernel
theorem dX7_isChange_12 : decode cX7_isChange 12 = .ok (.if_icmp .ne 18, 3) := by decide +kernel
theorem dX7_isChange_15 : decode cX7_isChange 15 = .ok (.aload_n 0, 1) := by decide +kernel
theorem dX7_isChange_16 : decode cX7_isChange 16 = .ok (.getfield 19, 3) := by decide +kernel
theorem dX7_isChange_19 : decode cX7_isChange 19 = .ok (.iload_n 1, 1) := by decide +kernel
theorem dX7_isChange_20 : decode cX7_isChange 20 = .ok (.iaload, 1) := by decide +kernel
theorem dX7_isChange_21 : decode cX7_isChange 21 = .ok (.aload_n 0, 1) := by decide +kernel
theorem dX7_isChange_22 : decode cX7_isChange 22 = .ok (.getfield 13, 3) := by decide +kernel
theorem dX7_isChange_25 : decode cX7_isChange 25 = .ok (.iload_n 1, 1) := by decide +kernel
theorem dX7_isChange_26 : decode cX7_isChange 26 = .ok (.iaload, 1) := by decide +kernel
theorem dX7_isChange_27 : decode cX7_isChange 27 = .ok (.if_icmp .eq 7, 3) := by decide +kernel
theorem dX7_isChange_30 : decode cX7_isChange 30 = .ok (.iconst 1, 1) := by decide +kernel
theorem dX7_isChange_31 : decode cX7_isChange 31 = .ok (.goto 4, 3) := by decide +kernel
theorem dX7_isChange_34 : decode cX7_isChange 34 = .ok (.iconst 0, 1) := by decide +kernel
theorem dX7_isChange_35 : decode cX7_isChange 35 = .ok (.ireturn, 1) := by decide +kernel
set_option maxRecDepth 20000 in
theorem ggX7_findReached_X7_takesOn : GoodIn wsX7_findReached wsX7_takesOn := goodIn_r _ [10, 1, 11, 12, 13, 14, 15, 9, 16, 17, 53, 54, 55, 56, 57, 58, 59, 60, 61, 62, 63, 64, 65, 66, 67, 68, 69, 70, 71, 72, 73, 74, 75] (by decide +kernel) (by decide +kernel)
set_option maxRecDepth 20000 in
theorem gX7_findReached_X7_takesOn : GoodIn wsX7_findReached (wsV RX7 125 RX7 yX7_takesOn wsX7_takesOn) := goodIn_app (goodIn_of _ (by decide +kernel)) ggX7_findReached_X7_takesOn
set_option maxRecDepth 20000 in
theorem ggX7_findReached_X7_isChange : GoodIn wsX7_findReached wsX7_isChange := goodIn_r _ [21, 22, 3, 23, 4, 53, 54, 55, 56, 57, 58, 59, 60, 61, 62, 63, 64, 65, 66, 67, 68, 69, 70, 71, 72, 73, 74, 75] (by decide +kernel) (by decide +kernel)
set_option maxRecDepth 20000 in
theorem gX7_findReached_X7_isChange : GoodIn wsX7_findReached (wsV RX7 128 RX7 yX7_isChange wsX7_isChange) := goodIn_app (goodIn_of _ (by decide +kernel)) ggX7_findReached_X7_isChange
set_option maxRecDepth 20000 in
theorem ggX7_findReached_X7_canMeet : GoodIn wsX7_findReached wsX7_canMeet := goodIn_r _ [27, 17, 53, 54, 55, 56, 57, 58, 59, 60, 61, 62, 63, 64, 65, 66, 67, 68, 69, 70, 71, 72, 73, 74, 75] (by decide +kernel) (by decide +kernel)
set_option maxRecDepth 20000 in
theorem gX7_findReached_X7_canMeet : GoodIn wsX7_findReached (wsV RX7 131 RX7 yX7_canMeet wsX7_canMeet) := goodIn_app (goodIn_of _ (by decide +kernel)) ggX7_findReached_X7_canMeet
set_option maxRecDepth 20000 in
theorem ggX7_findReached_X7_nextOf : GoodIn wsX7_findReached wsX7_nextOf := goodIn_r _ [31, 1, 12, 11, 3, 4, 22, 23, 32, 33, 34, 9, 35, 17, 6, 7, 8, 10, 13, 14, 15, 16, 36, 37, 38, 53, 54, 55, 56, 57, 58, 59, 60, 61, 62, 63, 64, 65, 66, 67, 68, 69, 70, 71, 72, 73, 74, 75] (by decide +kernel) (by decide +kernel)
set_option maxRecDepth 20000 in
theorem gX7_findReached_X7_nextOf : GoodIn wsX7_findReached (wsV RX7 134 RX7 yX7_nextOf wsX7_nextOf) := goodIn_app (goodIn_of _ (by decide +kernel)) ggX7_findReached_X7_nextOf
set_option maxRecDepth 20000 in
theorem ggX7_findReached_X7_findStable : GoodIn wsX7_findReached wsX7_findStable := goodIn_r _ [42, 1, 43, 44, 45, 46, 9, 47, 17, 48, 49, 50, 51, 52, 2, 5, 53, 54, 55, 56, 57, 58, 59, 60, 61, 62, 63, 64, 65, 66, 67, 68, 69, 70, 71, 72, 73, 74, 75] (by decide +kernel) (by decide +kernel)
set_option maxRecDepth 20000 in
theorem gX7_findReached_X7_findStable : GoodIn wsX7_findReached (wsV RX7 137 RX7 yX7_findStable wsX7_findStable) := goodIn_app (goodIn_of _ (by decide +kernel)) ggX7_findReached_X7_findStable
theorem dX7_findReached_0 : decode cX7_findReached 0 = .ok (.aload_n 0, 1) := by decide +kernel
theorem dX7_findReached_1 : decode cX7_findReached 1 = .ok (.iconst 0, 1) := by decide +kernel
theorem dX7_findReached_2 : decode cX7_findReached 2 = .ok (.putfield 118, 3) := by decide +kernel
theorem dX7_findReached_5 : decode cX7_findReached 5 = .ok (.aload_n 0, 1) := by decide +kernel
theorem dX7_findReached_6 : decode cX7_findReached 6 = .ok (.iconst 0, 1) := by decide +kernel
theorem dX7_findReached_7 : decode cX7_findReached 7 = .ok (.invokevirtual 125, 3) := by decide +kernel
theorem dX7_findReached_10 : decode cX7_findReached 10 = .ok (.pop, 1) := by decide +kernel
theorem dX7_findReached_11 : decode cX7_findReached 11 = .ok (.iconst 0, 1) := by decide +kernel
theorem dX7_findReached_12 : decode cX7_findReached 12 = .ok (.istore_n 1, 1) := by decide +kernel
theorem dX7_findReached_13 : decode cX7_findReached 13 = .ok (.iload_n 1, 1) := by decide +kernel
theorem dX7_findReached_14 : decode cX7_findReached 14 = .ok (.aload_n 0, 1) := by decide +kernel
theorem dX7_findReached_15 : decode cX7_findReached 15 = .ok (.getfield 118, 3) := by decide +kernel
theorem dX7_findReached_18 : decode cX7_findReached 18 = .ok (.if_icmp .ge 75, 3) := by decide +kernel
theorem dX7_findReached_21 : decode cX7_findReached 21 = .ok (.iconst 0, 1) := by decide +kernel
theorem dX7_findReached_22 : decode cX7_findReached 22 = .ok (.istore_n 2, 1) := by decide +kernel
theorem dX7_findReached_23 : decode cX7_findReached 23 = .ok (.iload_n 2, 1) := by decide +kernel
theorem dX7_findReached_24 : decode cX7_findReached 24 = .ok (.aload_n 0, 1) := by decide +kernel
theorem dX7_findReached_25 : decode cX7_findReached 25 = .ok (.getfield 71, 3) := by decide +kernel
theorem dX7_findReached_28 : decode cX7_findReached 28 = .ok (.if_icmp .ge 59, 3) := by decide +kernel
theorem dX7_findReached_31 : decode cX7_findReached 31 = .ok (.bipush (-9), 2) := by decide +kernel
theorem dX7_findReached_33 : decode cX7_findReached 33 = .ok (.istore_n 3, 1) := by decide +kernel
theorem dX7_findReached_34 : decode cX7_findReached 34 = .ok (.aload_n 0, 1) := by decide +kernel
theorem dX7_findReached_35 : decode cX7_findReached 35 = .ok (.iload_n 2, 1) := by decide +kernel
theorem dX7_findReached_36 : decode cX7_findReached 36 = .ok (.invokevirtual 128, 3) := by decide +kernel
theorem dX7_findReached_39 : decode cX7_findReached 39 = .ok (.ifCond .eq 30, 3) := by decide +kernel
theorem dX7_findReached_42 : decode cX7_findReached 42 = .ok (.aload_n 0, 1) := by decide +kernel
theorem dX7_findReached_43 : decode cX7_findReached 43 = .ok (.iload_n 1, 1) := by decide +kernel
theorem dX7_findReached_44 : decode cX7_findReached 44 = .ok (.aload_n 0, 1) := by decide +kernel
theorem dX7_findReached_45 : decode cX7_findReached 45 = .ok (.getfield 7, 3) := by decide +kernel
theorem dX7_findReached_48 : decode cX7_findReached 48 = .ok (.iload_n 2, 1) := by decide +kernel
theorem dX7_findReached_49 : decode cX7_findReached 49 = .ok (.iaload, 1) := by decide +kernel
theorem dX7_findReached_50 : decode cX7_findReached 50 = .ok (.aload_n 0, 1) := by decide +kernel
theorem dX7_findReached_51 : decode cX7_findReached 51 = .ok (.getfield 13, 3) := by decide +kernel
theorem dX7_findReached_54 : decode cX7_findReached 54 = .ok (.iload_n 2, 1) := by decide +kernel
theorem dX7_findReached_55 : decode cX7_findReached 55 = .ok (.iaload, 1) := by decide +kernel
theorem dX7_findReached_56 : decode cX7_findReached 56 = .ok (.invokevirtual 131, 3) := by decide +kernel
theorem dX7_findReached_59 : decode cX7_findReached 59 = .ok (.ifCond .eq 10, 3) := by decide +kernel
theorem dX7_findReached_62 : decode cX7_findReached 62 = .ok (.aload_n 0, 1) := by decide +kernel
theorem dX7_findReached_63 : decode cX7_findReached 63 = .ok (.iload_n 1, 1) := by decide +kernel
theorem dX7_findReached_64 : decode cX7_findReached 64 = .ok (.iload_n 2, 1) := by decide +kernel
theorem dX7_findReached_65 : decode cX7_findReached 65 = .ok (.invokevirtual 134, 3) := by decide +kernel
theorem dX7_findReached_68 : decode cX7_findReached 68 = .ok (.istore_n 3, 1) := by decide +kernel
theorem dX7_findReached_69 : decode cX7_findReached 69 = .ok (.aload_n 0, 1) := by decide +kernel
theorem dX7_findReached_70 : decode cX7_findReached 70 = .ok (.getfield 47, 3) := by decide +kernel
theorem dX7_findReached_73 : decode cX7_findReached 73 = .ok (.bipush 12, 2) := by decide +kernel
theorem dX7_findReached_75 : decode cX7_findReached 75 = .ok (.iload_n 1, 1) := by decide +kernel
theorem dX7_findReached_76 : decode cX7_findReached 76 = .ok (.imul, 1) := by decide +kernel
theorem dX7_findReached_77 : decode cX7_findReached 77 = .ok (.iload_n 2, 1) := by decide +kernel
theorem dX7_findReached_78 : decode cX7_findReached 78 = .ok (.iadd, 1) := by decide +kernel
theorem dX7_findReached_79 : decode cX7_findReached 79 = .ok (.iload_n 3, 1) := by decide +kernel
theorem dX7_findReached_80 : decode cX7_findReached 80 = .ok (.iastore, 1) := by decide +kernel
theorem dX7_findReached_81 : decode cX7_findReached 81 = .ok (.iinc 2 1, 3) := by decide +kernel
theorem dX7_findReached_84 : decode cX7_findReached 84 = .ok (.goto (-61), 3) := by decide +kernel
theorem dX7_findReached_87 : decode cX7_findReached 87 = .ok (.iinc 1 1, 3) := by decide +kernel
theorem dX7_findReached_90 : decode cX7_findReached 90 = .ok (.goto (-77), 3) := by decide +kernel
theorem dX7_findReached_93 : decode cX7_findReached 93 = .ok (.aload_n 0, 1) := by decide +kernel
theorem dX7_findReached_94 : decode cX7_findReached 94 = .ok (.invokevirtual 137, 3) := by decide +kernel
theorem dX7_findReached_97 : decode cX7_findReached 97 = .ok (.return_, 1) := by decide +kernel
set_option maxRecDepth 20000 in
theorem ggX7_nextOf_X7_laysNext : GoodIn wsX7_nextOf wsX7_laysNext := goodIn_r _ [12, 1, 13, 4, 5, 6, 7, 25, 26, 27, 28, 29, 30, 31, 32, 33, 34, 35, 36, 37, 38, 39, 40, 41, 42, 43, 44, 45, 46, 47] (by decide +kernel) (by decide +kernel)
set_option maxRecDepth 20000 in
theorem gX7_nextOf_X7_laysNext : GoodIn wsX7_nextOf (wsV RX7 140 RX7 yX7_laysNext wsX7_laysNext) := goodIn_app (goodIn_of _ (by decide +kernel)) ggX7_nextOf_X7_laysNext
set_option maxRecDepth 20000 in
theorem ggX7_nextOf_X7_takesOn : GoodIn wsX7_nextOf wsX7_takesOn := goodIn_r _ [17, 1, 3, 2, 18, 19, 20, 11, 21, 13, 25, 26, 27, 28, 29, 30, 31, 32, 33, 34, 35, 36, 37, 38, 39, 40, 41, 42, 43, 44, 45, 46, 47] (by decide +kernel) (by decide +kernel)
set_option maxRecDepth 20000 in
theorem gX7_nextOf_X7_takesOn : GoodIn wsX7_nextOf (wsV RX7 125 RX7 yX7_takesOn wsX7_takesOn) := goodIn_app (goodIn_of _ (by decide +kernel)) ggX7_nextOf_X7_takesOn
set_option maxRecDepth 20000 in
theorem ggX7_nextOf_X7_power : GoodIn wsX7_nextOf wsX7_power := goodIn_r _ [24] (by decide +kernel) (by decide +kernel)
set_option maxRecDepth 20000 in
theorem gX7_nextOf_X7_power : GoodIn wsX7_nextOf (va_wsS RX7 143 yX7_power wsX7_power) := goodIn_app (goodIn_of _ (by decide +kernel)) ggX7_nextOf_X7_power
theorem dX7_nextOf_0 : decode cX7_nextOf 0 = .ok (.aload_n 0, 1) := by decide +kernel
theorem dX7_nextOf_1 : decode cX7_nextOf 1 = .ok (.getfield 118, 3) := by decide +kernel
theorem dX7_nextOf_4 : decode cX7_nextOf 4 = .ok (.sipush 462, 3) := by decide +kernel
theorem dX7_nextOf_7 : decode cX7_nextOf 7 = .ok (.if_icmp .ge 22, 3) := by decide +kernel
theorem dX7_nextOf_10 : decode cX7_nextOf 10 = .ok (.aload_n 0, 1) := by decide +kernel
theorem dX7_nextOf_11 : decode cX7_nextOf 11 = .ok (.iload_n 1, 1) := by decide +kernel
theorem dX7_nextOf_12 : decode cX7_nextOf 12 = .ok (.iload_n 2, 1) := by decide +kernel
theorem dX7_nextOf_13 : decode cX7_nextOf 13 = .ok (.invokevirtual 140, 3) := by decide +kernel
theorem dX7_nextOf_16 : decode cX7_nextOf 16 = .ok (.aload_n 0, 1) := by decide +kernel
theorem dX7_nextOf_17 : decode cX7_nextOf 17 = .ok (.aload_n 0, 1) := by decide +kernel
