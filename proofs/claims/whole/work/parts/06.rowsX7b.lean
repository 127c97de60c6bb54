theorem dX7_nextOf_18 : decode cX7_nextOf 18 = .ok (.getfield 44, 3) := by decide +kernel
theorem dX7_nextOf_21 : decode cX7_nextOf 21 = .ok (.iload_n 1, 1) := by decide +kernel
theorem dX7_nextOf_22 : decode cX7_nextOf 22 = .ok (.iaload, 1) := by decide +kernel
theorem dX7_nextOf_23 : decode cX7_nextOf 23 = .ok (.iconst 1, 1) := by decide +kernel
theorem dX7_nextOf_24 : decode cX7_nextOf 24 = .ok (.iadd, 1) := by decide +kernel
theorem dX7_nextOf_25 : decode cX7_nextOf 25 = .ok (.invokevirtual 125, 3) := by decide +kernel
theorem dX7_nextOf_28 : decode cX7_nextOf 28 = .ok (.ireturn, 1) := by decide +kernel
theorem dX7_nextOf_29 : decode cX7_nextOf 29 = .ok (.aload_n 0, 1) := by decide +kernel
theorem dX7_nextOf_30 : decode cX7_nextOf 30 = .ok (.getfield 41, 3) := by decide +kernel
theorem dX7_nextOf_33 : decode cX7_nextOf 33 = .ok (.iload_n 1, 1) := by decide +kernel
theorem dX7_nextOf_34 : decode cX7_nextOf 34 = .ok (.iaload, 1) := by decide +kernel
theorem dX7_nextOf_35 : decode cX7_nextOf 35 = .ok (.aload_n 0, 1) := by decide +kernel
theorem dX7_nextOf_36 : decode cX7_nextOf 36 = .ok (.getfield 7, 3) := by decide +kernel
theorem dX7_nextOf_39 : decode cX7_nextOf 39 = .ok (.iload_n 2, 1) := by decide +kernel
theorem dX7_nextOf_40 : decode cX7_nextOf 40 = .ok (.iaload, 1) := by decide +kernel
theorem dX7_nextOf_41 : decode cX7_nextOf 41 = .ok (.invokestatic 143, 3) := by decide +kernel
theorem dX7_nextOf_44 : decode cX7_nextOf 44 = .ok (.isub, 1) := by decide +kernel
theorem dX7_nextOf_45 : decode cX7_nextOf 45 = .ok (.aload_n 0, 1) := by decide +kernel
theorem dX7_nextOf_46 : decode cX7_nextOf 46 = .ok (.getfield 13, 3) := by decide +kernel
theorem dX7_nextOf_49 : decode cX7_nextOf 49 = .ok (.iload_n 2, 1) := by decide +kernel
theorem dX7_nextOf_50 : decode cX7_nextOf 50 = .ok (.iaload, 1) := by decide +kernel
theorem dX7_nextOf_51 : decode cX7_nextOf 51 = .ok (.invokestatic 143, 3) := by decide +kernel
theorem dX7_nextOf_54 : decode cX7_nextOf 54 = .ok (.isub, 1) := by decide +kernel
theorem dX7_nextOf_55 : decode cX7_nextOf 55 = .ok (.aload_n 0, 1) := by decide +kernel
theorem dX7_nextOf_56 : decode cX7_nextOf 56 = .ok (.getfield 16, 3) := by decide +kernel
theorem dX7_nextOf_59 : decode cX7_nextOf 59 = .ok (.iload_n 2, 1) := by decide +kernel
theorem dX7_nextOf_60 : decode cX7_nextOf 60 = .ok (.iaload, 1) := by decide +kernel
theorem dX7_nextOf_61 : decode cX7_nextOf 61 = .ok (.invokestatic 143, 3) := by decide +kernel
theorem dX7_nextOf_64 : decode cX7_nextOf 64 = .ok (.iadd, 1) := by decide +kernel
theorem dX7_nextOf_65 : decode cX7_nextOf 65 = .ok (.aload_n 0, 1) := by decide +kernel
theorem dX7_nextOf_66 : decode cX7_nextOf 66 = .ok (.getfield 19, 3) := by decide +kernel
theorem dX7_nextOf_69 : decode cX7_nextOf 69 = .ok (.iload_n 2, 1) := by decide +kernel
theorem dX7_nextOf_70 : decode cX7_nextOf 70 = .ok (.iaload, 1) := by decide +kernel
theorem dX7_nextOf_71 : decode cX7_nextOf 71 = .ok (.invokestatic 143, 3) := by decide +kernel
theorem dX7_nextOf_74 : decode cX7_nextOf 74 = .ok (.iadd, 1) := by decide +kernel
theorem dX7_nextOf_75 : decode cX7_nextOf 75 = .ok (.istore_n 3, 1) := by decide +kernel
theorem dX7_nextOf_76 : decode cX7_nextOf 76 = .ok (.iconst 0, 1) := by decide +kernel
theorem dX7_nextOf_77 : decode cX7_nextOf 77 = .ok (.istore 4, 2) := by decide +kernel
theorem dX7_nextOf_79 : decode cX7_nextOf 79 = .ok (.aload_n 0, 1) := by decide +kernel
theorem dX7_nextOf_80 : decode cX7_nextOf 80 = .ok (.getfield 41, 3) := by decide +kernel
theorem dX7_nextOf_83 : decode cX7_nextOf 83 = .ok (.iload 4, 2) := by decide +kernel
theorem dX7_nextOf_85 : decode cX7_nextOf 85 = .ok (.iaload, 1) := by decide +kernel
theorem dX7_nextOf_86 : decode cX7_nextOf 86 = .ok (.iload_n 3, 1) := by decide +kernel
theorem dX7_nextOf_87 : decode cX7_nextOf 87 = .ok (.if_icmp .eq 9, 3) := by decide +kernel
theorem dX7_nextOf_90 : decode cX7_nextOf 90 = .ok (.iinc 4 1, 3) := by decide +kernel
theorem dX7_nextOf_93 : decode cX7_nextOf 93 = .ok (.goto (-14), 3) := by decide +kernel
theorem dX7_nextOf_96 : decode cX7_nextOf 96 = .ok (.iload 4, 2) := by decide +kernel
theorem dX7_nextOf_98 : decode cX7_nextOf 98 = .ok (.ireturn, 1) := by decide +kernel
theorem dX7_power_0 : decode cX7_power 0 = .ok (.iconst 1, 1) := by decide +kernel
theorem dX7_power_1 : decode cX7_power 1 = .ok (.istore_n 1, 1) := by decide +kernel
theorem dX7_power_2 : decode cX7_power 2 = .ok (.iconst 5, 1) := by decide +kernel
theorem dX7_power_3 : decode cX7_power 3 = .ok (.istore_n 2, 1) := by decide +kernel
theorem dX7_power_4 : decode cX7_power 4 = .ok (.iload_n 2, 1) := by decide +kernel
theorem dX7_power_5 : decode cX7_power 5 = .ok (.iload_n 0, 1) := by decide +kernel
theorem dX7_power_6 : decode cX7_power 6 = .ok (.if_icmp .le 14, 3) := by decide +kernel
theorem dX7_power_9 : decode cX7_power 9 = .ok (.iload_n 1, 1) := by decide +kernel
theorem dX7_power_10 : decode cX7_power 10 = .ok (.bipush 7, 2) := by decide +kernel
theorem dX7_power_12 : decode cX7_power 12 = .ok (.imul, 1) := by decide +kernel
theorem dX7_power_13 : decode cX7_power 13 = .ok (.istore_n 1, 1) := by decide +kernel
theorem dX7_power_14 : decode cX7_power 14 = .ok (.iinc 2 (-1), 3) := by decide +kernel
theorem dX7_power_17 : decode cX7_power 17 = .ok (.goto (-13), 3) := by decide +kernel
theorem dX7_power_20 : decode cX7_power 20 = .ok (.iload_n 1, 1) := by decide +kernel
theorem dX7_power_21 : decode cX7_power 21 = .ok (.ireturn, 1) := by decide +kernel
theorem dX7_agreed_0 : decode cX7_agreed 0 = .ok (.bipush (-9), 2) := by decide +kernel
theorem dX7_agreed_2 : decode cX7_agreed 2 = .ok (.istore_n 2, 1) := by decide +kernel
theorem dX7_agreed_3 : decode cX7_agreed 3 = .ok (.iconst 1, 1) := by decide +kernel
theorem dX7_agreed_4 : decode cX7_agreed 4 = .ok (.istore_n 3, 1) := by decide +kernel
theorem dX7_agreed_5 : decode cX7_agreed 5 = .ok (.iconst 0, 1) := by decide +kernel
theorem dX7_agreed_6 : decode cX7_agreed 6 = .ok (.istore 4, 2) := by decide +kernel
theorem dX7_agreed_8 : decode cX7_agreed 8 = .ok (.iload 4, 2) := by decide +kernel
theorem dX7_agreed_10 : decode cX7_agreed 10 = .ok (.bipush 6, 2) := by decide +kernel
theorem dX7_agreed_12 : decode cX7_agreed 12 = .ok (.if_icmp .ge 59, 3) := by decide +kernel
theorem dX7_agreed_15 : decode cX7_agreed 15 = .ok (.aload_n 0, 1) := by decide +kernel
theorem dX7_agreed_16 : decode cX7_agreed 16 = .ok (.getfield 38, 3) := by decide +kernel
theorem dX7_agreed_19 : decode cX7_agreed 19 = .ok (.bipush 6, 2) := by decide +kernel
theorem dX7_agreed_21 : decode cX7_agreed 21 = .ok (.iload_n 1, 1) := by decide +kernel
theorem dX7_agreed_22 : decode cX7_agreed 22 = .ok (.imul, 1) := by decide +kernel
theorem dX7_agreed_23 : decode cX7_agreed 23 = .ok (.iload 4, 2) := by decide +kernel
theorem dX7_agreed_25 : decode cX7_agreed 25 = .ok (.iadd, 1) := by decide +kernel
theorem dX7_agreed_26 : decode cX7_agreed 26 = .ok (.iaload, 1) := by decide +kernel
theorem dX7_agreed_27 : decode cX7_agreed 27 = .ok (.ifCond .le 38, 3) := by decide +kernel
theorem dX7_agreed_30 : decode cX7_agreed 30 = .ok (.iload_n 3, 1) := by decide +kernel
theorem dX7_agreed_31 : decode cX7_agreed 31 = .ok (.ifCond .eq 24, 3) := by decide +kernel
theorem dX7_agreed_34 : decode cX7_agreed 34 = .ok (.iload_n 2, 1) := by decide +kernel
theorem dX7_agreed_35 : decode cX7_agreed 35 = .ok (.bipush (-9), 2) := by decide +kernel
theorem dX7_agreed_37 : decode cX7_agreed 37 = .ok (.if_icmp .eq 14, 3) := by decide +kernel
theorem dX7_agreed_40 : decode cX7_agreed 40 = .ok (.iload_n 2, 1) := by decide +kernel
theorem dX7_agreed_41 : decode cX7_agreed 41 = .ok (.aload_n 0, 1) := by decide +kernel
theorem dX7_agreed_42 : decode cX7_agreed 42 = .ok (.getfield 22, 3) := by decide +kernel
theorem dX7_agreed_45 : decode cX7_agreed 45 = .ok (.iload 4, 2) := by decide +kernel
theorem dX7_agreed_47 : decode cX7_agreed 47 = .ok (.iaload, 1) := by decide +kernel
theorem dX7_agreed_48 : decode cX7_agreed 48 = .ok (.if_icmp .ne 7, 3) := by decide +kernel
theorem dX7_agreed_51 : decode cX7_agreed 51 = .ok (.iconst 1, 1) := by decide +kernel
theorem dX7_agreed_52 : decode cX7_agreed 52 = .ok (.goto 4, 3) := by decide +kernel
theorem dX7_agreed_55 : decode cX7_agreed 55 = .ok (.iconst 0, 1) := by decide +kernel
theorem dX7_agreed_56 : decode cX7_agreed 56 = .ok (.istore_n 3, 1) := by decide +kernel
theorem dX7_agreed_57 : decode cX7_agreed 57 = .ok (.aload_n 0, 1) := by decide +kernel
theorem dX7_agreed_58 : decode cX7_agreed 58 = .ok (.getfield 22, 3) := by decide +kernel
theorem dX7_agreed_61 : decode cX7_agreed 61 = .ok (.iload 4, 2) := by decide +kernel
theorem dX7_agreed_63 : decode cX7_agreed 63 = .ok (.iaload, 1) := by decide +kernel
theorem dX7_agreed_64 : decode cX7_agreed 64 = .ok (.istore_n 2, 1) := by decide +kernel
theorem dX7_agreed_65 : decode cX7_agreed 65 = .ok (.iinc 4 1, 3) := by decide +kernel
theorem dX7_agreed_68 : decode cX7_agreed 68 = .ok (.goto (-60), 3) := by decide +kernel
theorem dX7_agreed_71 : decode cX7_agreed 71 = .ok (.iload_n 3, 1) := by decide +kernel
theorem dX7_agreed_72 : decode cX7_agreed 72 = .ok (.ifCond .eq 7, 3) := by decide +kernel
theorem dX7_agreed_75 : decode cX7_agreed 75 = .ok (.iload_n 2, 1) := by decide +kernel
theorem dX7_agreed_76 : decode cX7_agreed 76 = .ok (.goto 5, 3) := by decide +kernel
theorem dX7_agreed_79 : decode cX7_agreed 79 = .ok (.bipush (-9), 2) := by decide +kernel
theorem dX7_agreed_81 : decode cX7_agreed 81 = .ok (.ireturn, 1) := by decide +kernel
theorem dX7_isKept_0 : decode cX7_isKept 0 = .ok (.iconst 1, 1) := by decide +kernel
theorem dX7_isKept_1 : decode cX7_isKept 1 = .ok (.istore_n 2, 1) := by decide +kernel
theorem dX7_isKept_2 : decode cX7_isKept 2 = .ok (.iconst 0, 1) := by decide +kernel
theorem dX7_isKept_3 : decode cX7_isKept 3 = .ok (.istore_n 3, 1) := by decide +kernel
theorem dX7_isKept_4 : decode cX7_isKept 4 = .ok (.iload_n 3, 1) := by decide +kernel
theorem dX7_isKept_5 : decode cX7_isKept 5 = .ok (.aload_n 0, 1) := by decide +kernel
theorem dX7_isKept_6 : decode cX7_isKept 6 = .ok (.getfield 71, 3) := by decide +kernel
theorem dX7_isKept_9 : decode cX7_isKept 9 = .ok (.if_icmp .ge 55, 3) := by decide +kernel
theorem dX7_isKept_12 : decode cX7_isKept 12 = .ok (.aload_n 0, 1) := by decide +kernel
theorem dX7_isKept_13 : decode cX7_isKept 13 = .ok (.getfield 47, 3) := by decide +kernel
theorem dX7_isKept_16 : decode cX7_isKept 16 = .ok (.bipush 12, 2) := by decide +kernel
theorem dX7_isKept_18 : decode cX7_isKept 18 = .ok (.iload_n 1, 1) := by decide +kernel
theorem dX7_isKept_19 : decode cX7_isKept 19 = .ok (.imul, 1) := by decide +kernel
theorem dX7_isKept_20 : decode cX7_isKept 20 = .ok (.iload_n 3, 1) := by decide +kernel
theorem dX7_isKept_21 : decode cX7_isKept 21 = .ok (.iadd, 1) := by decide +kernel
theorem dX7_isKept_22 : decode cX7_isKept 22 = .ok (.iaload, 1) := by decide +kernel
theorem dX7_isKept_23 : decode cX7_isKept 23 = .ok (.istore 4, 2) := by decide +kernel
theorem dX7_isKept_25 : decode cX7_isKept 25 = .ok (.iload_n 2, 1) := by decide +kernel
theorem dX7_isKept_26 : decode cX7_isKept 26 = .ok (.ifCond .eq 30, 3) := by decide +kernel
theorem dX7_isKept_29 : decode cX7_isKept 29 = .ok (.iload 4, 2) := by decide +kernel
theorem dX7_isKept_31 : decode cX7_isKept 31 = .ok (.bipush (-9), 2) := by decide +kernel
theorem dX7_isKept_33 : decode cX7_isKept 33 = .ok (.if_icmp .eq 19, 3) := by decide +kernel
theorem dX7_isKept_36 : decode cX7_isKept 36 = .ok (.aload_n 0, 1) := by decide +kernel
theorem dX7_isKept_37 : decode cX7_isKept 37 = .ok (.getfield 50, 3) := by decide +kernel
theorem dX7_isKept_40 : decode cX7_isKept 40 = .ok (.iload 4, 2) := by decide +kernel
theorem dX7_isKept_42 : decode cX7_isKept 42 = .ok (.iaload, 1) := by decide +kernel
theorem dX7_isKept_43 : decode cX7_isKept 43 = .ok (.aload_n 0, 1) := by decide +kernel
theorem dX7_isKept_44 : decode cX7_isKept 44 = .ok (.getfield 50, 3) := by decide +kernel
theorem dX7_isKept_47 : decode cX7_isKept 47 = .ok (.iload_n 1, 1) := by decide +kernel
theorem dX7_isKept_48 : decode cX7_isKept 48 = .ok (.iaload, 1) := by decide +kernel
theorem dX7_isKept_49 : decode cX7_isKept 49 = .ok (.if_icmp .ne 7, 3) := by decide +kernel
theorem dX7_isKept_52 : decode cX7_isKept 52 = .ok (.iconst 1, 1) := by decide +kernel
theorem dX7_isKept_53 : decode cX7_isKept 53 = .ok (.goto 4, 3) := by decide +kernel
theorem dX7_isKept_56 : decode cX7_isKept 56 = .ok (.iconst 0, 1) := by decide +kernel
theorem dX7_isKept_57 : decode cX7_isKept 57 = .ok (.istore_n 2, 1) := by decide +kernel
theorem dX7_isKept_58 : decode cX7_isKept 58 = .ok (.iinc 3 1, 3) := by decide +kernel
theorem dX7_isKept_61 : decode cX7_isKept 61 = .ok (.goto (-57), 3) := by decide +kernel
theorem dX7_isKept_64 : decode cX7_isKept 64 = .ok (.iload_n 2, 1) := by decide +kernel
theorem dX7_isKept_65 : decode cX7_isKept 65 = .ok (.ireturn, 1) := by decide +kernel
set_option maxRecDepth 20000 in
theorem ggX7_findStable_X7_agreed : GoodIn wsX7_findStable wsX7_agreed := goodIn_r _ [7, 8, 9, 16, 17, 18, 19, 20, 21, 22, 23, 24, 25, 26, 27, 28, 29, 30, 31, 32, 33, 34, 35, 36, 37, 38] (by decide +kernel) (by decide +kernel)
set_option maxRecDepth 20000 in
theorem gX7_findStable_X7_agreed : GoodIn wsX7_findStable (wsV RX7 146 RX7 yX7_agreed wsX7_agreed) := goodIn_app (goodIn_of _ (by decide +kernel)) ggX7_findStable_X7_agreed
set_option maxRecDepth 20000 in
theorem ggX7_findStable_X7_isKept : GoodIn wsX7_findStable wsX7_isKept := goodIn_r _ [13, 14, 15, 2, 16, 17, 18, 19, 20, 21, 22, 23, 24, 25, 26, 27, 28, 29, 30, 31, 32, 33, 34, 35, 36, 37, 38] (by decide +kernel) (by decide +kernel)
set_option maxRecDepth 20000 in
theorem gX7_findStable_X7_isKept : GoodIn wsX7_findStable (wsV RX7 149 RX7 yX7_isKept wsX7_isKept) := goodIn_app (goodIn_of _ (by decide +kernel)) ggX7_findStable_X7_isKept
theorem dX7_findStable_0 : decode cX7_findStable 0 = .ok (.iconst 0, 1) := by decide +kernel
theorem dX7_findStable_1 : decode cX7_findStable 1 = .ok (.istore_n 1, 1) := by decide +kernel
theorem dX7_findStable_2 : decode cX7_findStable 2 = .ok (.iload_n 1, 1) := by decide +kernel
theorem dX7_findStable_3 : decode cX7_findStable 3 = .ok (.aload_n 0, 1) := by decide +kernel
theorem dX7_findStable_4 : decode cX7_findStable 4 = .ok (.getfield 118, 3) := by decide +kernel
theorem dX7_findStable_7 : decode cX7_findStable 7 = .ok (.if_icmp .ge 20, 3) := by decide +kernel
theorem dX7_findStable_10 : decode cX7_findStable 10 = .ok (.aload_n 0, 1) := by decide +kernel
theorem dX7_findStable_11 : decode cX7_findStable 11 = .ok (.getfield 50, 3) := by decide +kernel
theorem dX7_findStable_14 : decode cX7_findStable 14 = .ok (.iload_n 1, 1) := by decide +kernel
theorem dX7_findStable_15 : decode cX7_findStable 15 = .ok (.aload_n 0, 1) := by decide +kernel
theorem dX7_findStable_16 : decode cX7_findStable 16 = .ok (.iload_n 1, 1) := by decide +kernel
theorem dX7_findStable_17 : decode cX7_findStable 17 = .ok (.invokevirtual 146, 3) := by decide +kernel
theorem dX7_findStable_20 : decode cX7_findStable 20 = .ok (.iastore, 1) := by decide +kernel
theorem dX7_findStable_21 : decode cX7_findStable 21 = .ok (.iinc 1 1, 3) := by decide +kernel
theorem dX7_findStable_24 : decode cX7_findStable 24 = .ok (.goto (-22), 3) := by decide +kernel
theorem dX7_findStable_27 : decode cX7_findStable 27 = .ok (.iconst 1, 1) := by decide +kernel
theorem dX7_findStable_28 : decode cX7_findStable 28 = .ok (.istore_n 1, 1) := by decide +kernel
theorem dX7_findStable_29 : decode cX7_findStable 29 = .ok (.iload_n 1, 1) := by decide +kernel
theorem dX7_findStable_30 : decode cX7_findStable 30 = .ok (.ifCond .eq 53, 3) := by decide +kernel
theorem dX7_findStable_33 : decode cX7_findStable 33 = .ok (.iconst 0, 1) := by decide +kernel
theorem dX7_findStable_34 : decode cX7_findStable 34 = .ok (.istore_n 1, 1) := by decide +kernel
theorem dX7_findStable_35 : decode cX7_findStable 35 = .ok (.iconst 0, 1) := by decide +kernel
theorem dX7_findStable_36 : decode cX7_findStable 36 = .ok (.istore_n 2, 1) := by decide +kernel
theorem dX7_findStable_37 : decode cX7_findStable 37 = .ok (.iload_n 2, 1) := by decide +kernel
theorem dX7_findStable_38 : decode cX7_findStable 38 = .ok (.aload_n 0, 1) := by decide +kernel
theorem dX7_findStable_39 : decode cX7_findStable 39 = .ok (.getfield 118, 3) := by decide +kernel
theorem dX7_findStable_42 : decode cX7_findStable 42 = .ok (.if_icmp .ge 38, 3) := by decide +kernel
theorem dX7_findStable_45 : decode cX7_findStable 45 = .ok (.aload_n 0, 1) := by decide +kernel
theorem dX7_findStable_46 : decode cX7_findStable 46 = .ok (.getfield 50, 3) := by decide +kernel
theorem dX7_findStable_49 : decode cX7_findStable 49 = .ok (.iload_n 2, 1) := by decide +kernel
theorem dX7_findStable_50 : decode cX7_findStable 50 = .ok (.iaload, 1) := by decide +kernel
theorem dX7_findStable_51 : decode cX7_findStable 51 = .ok (.bipush (-9), 2) := by decide +kernel
theorem dX7_findStable_53 : decode cX7_findStable 53 = .ok (.if_icmp .eq 21, 3) := by decide +kernel
theorem dX7_findStable_56 : decode cX7_findStable 56 = .ok (.aload_n 0, 1) := by decide +kernel
theorem dX7_findStable_57 : decode cX7_findStable 57 = .ok (.iload_n 2, 1) := by decide +kernel
theorem dX7_findStable_58 : decode cX7_findStable 58 = .ok (.invokevirtual 149, 3) := by decide +kernel
theorem dX7_findStable_61 : decode cX7_findStable 61 = .ok (.ifCond .ne 13, 3) := by decide +kernel
theorem dX7_findStable_64 : decode cX7_findStable 64 = .ok (.aload_n 0, 1) := by decide +kernel
theorem dX7_findStable_65 : decode cX7_findStable 65 = .ok (.getfield 50, 3) := by decide +kernel
theorem dX7_findStable_68 : decode cX7_findStable 68 = .ok (.iload_n 2, 1) := by decide +kernel
theorem dX7_findStable_69 : decode cX7_findStable 69 = .ok (.bipush (-9), 2) := by decide +kernel
theorem dX7_findStable_71 : decode cX7_findStable 71 = .ok (.iastore, 1) := by decide +kernel
theorem dX7_findStable_72 : decode cX7_findStable 72 = .ok (.iconst 1, 1) := by decide +kernel
theorem dX7_findStable_73 : decode cX7_findStable 73 = .ok (.istore_n 1, 1) := by decide +kernel
theorem dX7_findStable_74 : decode cX7_findStable 74 = .ok (.iinc 2 1, 3) := by decide +kernel
theorem dX7_findStable_77 : decode cX7_findStable 77 = .ok (.goto (-40), 3) := by decide +kernel
theorem dX7_findStable_80 : decode cX7_findStable 80 = .ok (.goto (-51), 3) := by decide +kernel
theorem dX7_findStable_83 : decode cX7_findStable 83 = .ok (.return_, 1) := by decide +kernel
set_option maxRecDepth 20000 in
theorem ggX7_findFromAgents_X7_in : GoodIn wsX7_findFromAgents wsX7_in := goodIn_r _ [6, 7, 8, 9, 10, 5, 11, 12, 13, 14, 69, 70, 71, 72, 73, 74, 75, 76, 77, 78, 79, 80, 81, 82, 83, 84, 85, 86, 87, 88, 89, 90, 91] (by decide +kernel) (by decide +kernel)
set_option maxRecDepth 20000 in
theorem gX7_findFromAgents_X7_in : GoodIn wsX7_findFromAgents (wsV RX7 152 RX7 yX7_in wsX7_in) := goodIn_app (goodIn_of _ (by decide +kernel)) ggX7_findFromAgents_X7_in
set_option maxRecDepth 20000 in
theorem ggX7_findFromAgents_X7_findReached : GoodIn wsX7_findFromAgents wsX7_findReached := goodIn_r _ [18, 19, 20, 21, 22, 23, 24, 25, 26, 5, 27, 28, 29, 30, 31, 32, 33, 1, 34, 35, 36, 37, 38, 39, 40, 41, 42, 43, 44, 45, 46, 47, 48, 49, 50, 51, 52, 53, 54, 55, 56, 57, 58, 59, 60, 61, 62, 63, 64, 65, 66, 67, 68, 69, 70, 71, 72, 73, 74, 75, 76, 77, 78, 79, 80, 81, 82, 83, 84, 85, 86, 87, 88, 89, 90, 91] (by decide +kernel) (by decide +kernel)
set_option maxRecDepth 20000 in
theorem gX7_findFromAgents_X7_findReached : GoodIn wsX7_findFromAgents (wsV RX7 155 RX7 yX7_findReached wsX7_findReached) := goodIn_app (goodIn_of _ (by decide +kernel)) ggX7_findFromAgents_X7_findReached
theorem dX7_findFromAgents_0 : decode cX7_findFromAgents 0 = .ok (.iconst 0, 1) := by decide +kernel
theorem dX7_findFromAgents_1 : decode cX7_findFromAgents 1 = .ok (.istore_n 1, 1) := by decide +kernel
theorem dX7_findFromAgents_2 : decode cX7_findFromAgents 2 = .ok (.iload_n 1, 1) := by decide +kernel
theorem dX7_findFromAgents_3 : decode cX7_findFromAgents 3 = .ok (.bipush 6, 2) := by decide +kernel
theorem dX7_findFromAgents_5 : decode cX7_findFromAgents 5 = .ok (.if_icmp .ge 20, 3) := by decide +kernel
theorem dX7_findFromAgents_8 : decode cX7_findFromAgents 8 = .ok (.aload_n 0, 1) := by decide +kernel
theorem dX7_findFromAgents_9 : decode cX7_findFromAgents 9 = .ok (.getfield 38, 3) := by decide +kernel
theorem dX7_findFromAgents_12 : decode cX7_findFromAgents 12 = .ok (.iload_n 1, 1) := by decide +kernel
theorem dX7_findFromAgents_13 : decode cX7_findFromAgents 13 = .ok (.aload_n 0, 1) := by decide +kernel
theorem dX7_findFromAgents_14 : decode cX7_findFromAgents 14 = .ok (.iload_n 1, 1) := by decide +kernel
theorem dX7_findFromAgents_15 : decode cX7_findFromAgents 15 = .ok (.invokevirtual 152, 3) := by decide +kernel
theorem dX7_findFromAgents_18 : decode cX7_findFromAgents 18 = .ok (.iastore, 1) := by decide +kernel
theorem dX7_findFromAgents_19 : decode cX7_findFromAgents 19 = .ok (.iinc 1 1, 3) := by decide +kernel
theorem dX7_findFromAgents_22 : decode cX7_findFromAgents 22 = .ok (.goto (-20), 3) := by decide +kernel
theorem dX7_findFromAgents_25 : decode cX7_findFromAgents 25 = .ok (.aload_n 0, 1) := by decide +kernel
theorem dX7_findFromAgents_26 : decode cX7_findFromAgents 26 = .ok (.invokevirtual 155, 3) := by decide +kernel
theorem dX7_findFromAgents_29 : decode cX7_findFromAgents 29 = .ok (.return_, 1) := by decide +kernel
theorem dX7_isSilent_0 : decode cX7_isSilent 0 = .ok (.iconst 1, 1) := by decide +kernel
theorem dX7_isSilent_1 : decode cX7_isSilent 1 = .ok (.istore_n 2, 1) := by decide +kernel
theorem dX7_isSilent_2 : decode cX7_isSilent 2 = .ok (.iconst 0, 1) := by decide +kernel
theorem dX7_isSilent_3 : decode cX7_isSilent 3 = .ok (.istore_n 3, 1) := by decide +kernel
theorem dX7_isSilent_4 : decode cX7_isSilent 4 = .ok (.iload_n 3, 1) := by decide +kernel
theorem dX7_isSilent_5 : decode cX7_isSilent 5 = .ok (.aload_n 0, 1) := by decide +kernel
theorem dX7_isSilent_6 : decode cX7_isSilent 6 = .ok (.getfield 71, 3) := by decide +kernel
theorem dX7_isSilent_9 : decode cX7_isSilent 9 = .ok (.if_icmp .ge 45, 3) := by decide +kernel
theorem dX7_isSilent_12 : decode cX7_isSilent 12 = .ok (.aload_n 0, 1) := by decide +kernel
theorem dX7_isSilent_13 : decode cX7_isSilent 13 = .ok (.getfield 47, 3) := by decide +kernel
theorem dX7_isSilent_16 : decode cX7_isSilent 16 = .ok (.bipush 12, 2) := by decide +kernel
theorem dX7_isSilent_18 : decode cX7_isSilent 18 = .ok (.iload_n 1, 1) := by decide +kernel
theorem dX7_isSilent_19 : decode cX7_isSilent 19 = .ok (.imul, 1) := by decide +kernel
theorem dX7_isSilent_20 : decode cX7_isSilent 20 = .ok (.iload_n 3, 1) := by decide +kernel
theorem dX7_isSilent_21 : decode cX7_isSilent 21 = .ok (.iadd, 1) := by decide +kernel
theorem dX7_isSilent_22 : decode cX7_isSilent 22 = .ok (.iaload, 1) := by decide +kernel
theorem dX7_isSilent_23 : decode cX7_isSilent 23 = .ok (.istore 4, 2) := by decide +kernel
theorem dX7_isSilent_25 : decode cX7_isSilent 25 = .ok (.iload_n 2, 1) := by decide +kernel
theorem dX7_isSilent_26 : decode cX7_isSilent 26 = .ok (.ifCond .eq 20, 3) := by decide +kernel
theorem dX7_isSilent_29 : decode cX7_isSilent 29 = .ok (.iload 4, 2) := by decide +kernel
theorem dX7_isSilent_31 : decode cX7_isSilent 31 = .ok (.bipush (-9), 2) := by decide +kernel
theorem dX7_isSilent_33 : decode cX7_isSilent 33 = .ok (.if_icmp .eq 9, 3) := by decide +kernel
theorem dX7_isSilent_36 : decode cX7_isSilent 36 = .ok (.iload 4, 2) := by decide +kernel
theorem dX7_isSilent_38 : decode cX7_isSilent 38 = .ok (.iload_n 1, 1) := by decide +kernel
theorem dX7_isSilent_39 : decode cX7_isSilent 39 = .ok (.if_icmp .ne 7, 3) := by decide +kernel
theorem dX7_isSilent_42 : decode cX7_isSilent 42 = .ok (.iconst 1, 1) := by decide +kernel
theorem dX7_isSilent_43 : decode cX7_isSilent 43 = .ok (.goto 4, 3) := by decide +kernel
theorem dX7_isSilent_46 : decode cX7_isSilent 46 = .ok (.iconst 0, 1) := by decide +kernel
theorem dX7_isSilent_47 : decode cX7_isSilent 47 = .ok (.istore_n 2, 1) := by decide +kernel
theorem dX7_isSilent_48 : decode cX7_isSilent 48 = .ok (.iinc 3 1, 3) := by decide +kernel
theorem dX7_isSilent_51 : decode cX7_isSilent 51 = .ok (.goto (-47), 3) := by decide +kernel
theorem dX7_isSilent_54 : decode cX7_isSilent 54 = .ok (.iload_n 2, 1) := by decide +kernel
theorem dX7_isSilent_55 : decode cX7_isSilent 55 = .ok (.ireturn, 1) := by decide +kernel
set_option maxRecDepth 20000 in
theorem ggX7_reached_X7_within : GoodIn wsX7_reached wsX7_within := goodIn_r _ [7] (by decide +kernel) (by decide +kernel)
set_option maxRecDepth 20000 in
theorem gX7_reached_X7_within : GoodIn wsX7_reached (va_wsS RX7 67 yX7_within wsX7_within) := goodIn_app (goodIn_of _ (by decide +kernel)) ggX7_reached_X7_within
set_option maxRecDepth 20000 in
theorem ggX7_reached_X7_findFromAgents : GoodIn wsX7_reached wsX7_findFromAgents := goodIn_r _ [11, 12, 13, 14, 15, 6, 16, 1, 17, 18, 19, 20, 4, 5, 7, 21, 22, 23, 24, 2, 25, 26, 27, 28, 29, 30, 31, 32, 33, 34, 35, 36, 37, 38, 39, 40, 41, 42, 43, 44, 45, 46, 47, 48, 49, 50, 51, 52, 53, 54, 55, 56, 57, 58, 59, 60, 61, 62, 63, 3, 64, 65, 66, 67, 68, 69, 70, 71, 72, 77, 78, 79, 80, 81, 82, 83, 84, 85, 86, 87, 88, 89, 90, 91, 92, 93, 94, 95, 96, 97, 98, 99] (by decide +kernel) (by decide +kernel)
set_option maxRecDepth 20000 in
theorem gX7_reached_X7_findFromAgents : GoodIn wsX7_reached (wsV RX7 158 RX7 yX7_findFromAgents wsX7_findFromAgents) := goodIn_app (goodIn_of _ (by decide +kernel)) ggX7_reached_X7_findFromAgents
set_option maxRecDepth 20000 in
theorem ggX7_reached_X7_agreed : GoodIn wsX7_reached wsX7_agreed := goodIn_r _ [67, 12, 68, 77, 78, 79, 80, 81, 82, 83, 84, 85, 86, 87, 88, 89, 90, 91, 92, 93, 94, 95, 96, 97, 98, 99] (by decide +kernel) (by decide +kernel)
set_option maxRecDepth 20000 in
theorem gX7_reached_X7_agreed : GoodIn wsX7_reached (wsV RX7 146 RX7 yX7_agreed wsX7_agreed) := goodIn_app (goodIn_of _ (by decide +kernel)) ggX7_reached_X7_agreed
set_option maxRecDepth 20000 in
theorem ggX7_reached_X7_isSilent : GoodIn wsX7_reached wsX7_isSilent := goodIn_r _ [76, 25, 28, 77, 78, 79, 80, 81, 82, 83, 84, 85, 86, 87, 88, 89, 90, 91, 92, 93, 94, 95, 96, 97, 98, 99] (by decide +kernel) (by decide +kernel)
set_option maxRecDepth 20000 in
theorem gX7_reached_X7_isSilent : GoodIn wsX7_reached (wsV RX7 161 RX7 yX7_isSilent wsX7_isSilent) := goodIn_app (goodIn_of _ (by decide +kernel)) ggX7_reached_X7_isSilent
theorem dX7_reached_0 : decode cX7_reached 0 = .ok (.iload_n 1, 1) := by decide +kernel
theorem dX7_reached_1 : decode cX7_reached 1 = .ok (.iconst 0, 1) := by decide +kernel
theorem dX7_reached_2 : decode cX7_reached 2 = .ok (.iconst 3, 1) := by decide +kernel
theorem dX7_reached_3 : decode cX7_reached 3 = .ok (.invokestatic 67, 3) := by decide +kernel
theorem dX7_reached_6 : decode cX7_reached 6 = .ok (.ifCond .ne 6, 3) := by decide +kernel
theorem dX7_reached_9 : decode cX7_reached 9 = .ok (.bipush (-2), 2) := by decide +kernel
theorem dX7_reached_11 : decode cX7_reached 11 = .ok (.ireturn, 1) := by decide +kernel
theorem dX7_reached_12 : decode cX7_reached 12 = .ok (.aload_n 0, 1) := by decide +kernel
theorem dX7_reached_13 : decode cX7_reached 13 = .ok (.getfield 90, 3) := by decide +kernel
theorem dX7_reached_16 : decode cX7_reached 16 = .ok (.ifCond .ne 6, 3) := by decide +kernel
theorem dX7_reached_19 : decode cX7_reached 19 = .ok (.bipush (-3), 2) := by decide +kernel
theorem dX7_reached_21 : decode cX7_reached 21 = .ok (.ireturn, 1) := by decide +kernel
theorem dX7_reached_22 : decode cX7_reached 22 = .ok (.aload_n 0, 1) := by decide +kernel
theorem dX7_reached_23 : decode cX7_reached 23 = .ok (.invokevirtual 158, 3) := by decide +kernel
theorem dX7_reached_26 : decode cX7_reached 26 = .ok (.iconst 0, 1) := by decide +kernel
theorem dX7_reached_27 : decode cX7_reached 27 = .ok (.istore_n 2, 1) := by decide +kernel
theorem dX7_reached_28 : decode cX7_reached 28 = .ok (.iconst 0, 1) := by decide +kernel
theorem dX7_reached_29 : decode cX7_reached 29 = .ok (.istore_n 3, 1) := by decide +kernel
theorem dX7_reached_30 : decode cX7_reached 30 = .ok (.iload_n 3, 1) := by decide +kernel
theorem dX7_reached_31 : decode cX7_reached 31 = .ok (.aload_n 0, 1) := by decide +kernel
theorem dX7_reached_32 : decode cX7_reached 32 = .ok (.getfield 118, 3) := by decide +kernel
theorem dX7_reached_35 : decode cX7_reached 35 = .ok (.if_icmp .ge 77, 3) := by decide +kernel
theorem dX7_reached_38 : decode cX7_reached 38 = .ok (.iload_n 1, 1) := by decide +kernel
theorem dX7_reached_39 : decode cX7_reached 39 = .ok (.ifCond .eq 47, 3) := by decide +kernel
theorem dX7_reached_42 : decode cX7_reached 42 = .ok (.iload_n 1, 1) := by decide +kernel
theorem dX7_reached_43 : decode cX7_reached 43 = .ok (.iconst 1, 1) := by decide +kernel
theorem dX7_reached_44 : decode cX7_reached 44 = .ok (.if_icmp .ne 13, 3) := by decide +kernel
theorem dX7_reached_47 : decode cX7_reached 47 = .ok (.aload_n 0, 1) := by decide +kernel
theorem dX7_reached_48 : decode cX7_reached 48 = .ok (.iload_n 3, 1) := by decide +kernel
theorem dX7_reached_49 : decode cX7_reached 49 = .ok (.invokevirtual 146, 3) := by decide +kernel
theorem dX7_reached_52 : decode cX7_reached 52 = .ok (.bipush (-9), 2) := by decide +kernel
theorem dX7_reached_54 : decode cX7_reached 54 = .ok (.if_icmp .ne 32, 3) := by decide +kernel
theorem dX7_reached_57 : decode cX7_reached 57 = .ok (.iload_n 1, 1) := by decide +kernel
theorem dX7_reached_58 : decode cX7_reached 58 = .ok (.iconst 2, 1) := by decide +kernel
theorem dX7_reached_59 : decode cX7_reached 59 = .ok (.if_icmp .ne 14, 3) := by decide +kernel
theorem dX7_reached_62 : decode cX7_reached 62 = .ok (.aload_n 0, 1) := by decide +kernel
theorem dX7_reached_63 : decode cX7_reached 63 = .ok (.getfield 50, 3) := by decide +kernel
theorem dX7_reached_66 : decode cX7_reached 66 = .ok (.iload_n 3, 1) := by decide +kernel
theorem dX7_reached_67 : decode cX7_reached 67 = .ok (.iaload, 1) := by decide +kernel
theorem dX7_reached_68 : decode cX7_reached 68 = .ok (.bipush (-9), 2) := by decide +kernel
theorem dX7_reached_70 : decode cX7_reached 70 = .ok (.if_icmp .ne 16, 3) := by decide +kernel
theorem dX7_reached_73 : decode cX7_reached 73 = .ok (.iload_n 1, 1) := by decide +kernel
theorem dX7_reached_74 : decode cX7_reached 74 = .ok (.iconst 3, 1) := by decide +kernel
theorem dX7_reached_75 : decode cX7_reached 75 = .ok (.if_icmp .ne 15, 3) := by decide +kernel
theorem dX7_reached_78 : decode cX7_reached 78 = .ok (.aload_n 0, 1) := by decide +kernel
theorem dX7_reached_79 : decode cX7_reached 79 = .ok (.iload_n 3, 1) := by decide +kernel
theorem dX7_reached_80 : decode cX7_reached 80 = .ok (.invokevirtual 161, 3) := by decide +kernel
theorem dX7_reached_83 : decode cX7_reached 83 = .ok (.ifCond .eq 7, 3) := by decide +kernel
theorem dX7_reached_86 : decode cX7_reached 86 = .ok (.iconst 1, 1) := by decide +kernel
theorem dX7_reached_87 : decode cX7_reached 87 = .ok (.goto 4, 3) := by decide +kernel
theorem dX7_reached_90 : decode cX7_reached 90 = .ok (.iconst 0, 1) := by decide +kernel
theorem dX7_reached_91 : decode cX7_reached 91 = .ok (.istore 4, 2) := by decide +kernel
theorem dX7_reached_93 : decode cX7_reached 93 = .ok (.iload_n 2, 1) := by decide +kernel
theorem dX7_reached_94 : decode cX7_reached 94 = .ok (.iload 4, 2) := by decide +kernel
theorem dX7_reached_96 : decode cX7_reached 96 = .ok (.ifCond .eq 7, 3) := by decide +kernel
theorem dX7_reached_99 : decode cX7_reached 99 = .ok (.iconst 1, 1) := by decide +kernel
theorem dX7_reached_100 : decode cX7_reached 100 = .ok (.goto 4, 3) := by decide +kernel
theorem dX7_reached_103 : decode cX7_reached 103 = .ok (.iconst 0, 1) := by decide +kernel
theorem dX7_reached_104 : decode cX7_reached 104 = .ok (.iadd, 1) := by decide +kernel
theorem dX7_reached_105 : decode cX7_reached 105 = .ok (.istore_n 2, 1) := by decide +kernel
theorem dX7_reached_106 : decode cX7_reached 106 = .ok (.iinc 3 1, 3) := by decide +kernel
theorem dX7_reached_109 : decode cX7_reached 109 = .ok (.goto (-79), 3) := by decide +kernel
theorem dX7_reached_112 : decode cX7_reached 112 = .ok (.iload_n 2, 1) := by decide +kernel
theorem dX7_reached_113 : decode cX7_reached 113 = .ok (.ireturn, 1) := by decide +kernel
set_option maxRecDepth 20000 in
theorem ggX7_answer_X7_findFromAgents : GoodIn wsX7_answer wsX7_findFromAgents := goodIn_r _ [7, 8, 9, 10, 11, 6, 12, 1, 13, 14, 15, 16, 17, 18, 19, 20, 21, 22, 23, 24, 25, 26, 27, 28, 29, 30, 31, 32, 33, 34, 35, 36, 37, 38, 39, 40, 41, 42, 43, 44, 45, 46, 47, 48, 49, 50, 51, 52, 53, 54, 55, 56, 57, 58, 59, 60, 61, 62, 63, 2, 64, 65, 66, 67, 68, 69, 70, 71, 72, 73, 74, 75, 76, 77, 78, 79, 80, 81, 82, 83, 84, 85, 86, 87, 88, 89, 90, 91, 92, 93, 94, 95] (by decide +kernel) (by decide +kernel)
set_option maxRecDepth 20000 in
theorem gX7_answer_X7_findFromAgents : GoodIn wsX7_answer (wsV RX7 158 RX7 yX7_findFromAgents wsX7_findFromAgents) := goodIn_app (goodIn_of _ (by decide +kernel)) ggX7_answer_X7_findFromAgents
theorem dX7_answer_0 : decode cX7_answer 0 = .ok (.aload_n 0, 1) := by decide +kernel
theorem dX7_answer_1 : decode cX7_answer 1 = .ok (.getfield 90, 3) := by decide +kernel
theorem dX7_answer_4 : decode cX7_answer 4 = .ok (.ifCond .ne 6, 3) := by decide +kernel
theorem dX7_answer_7 : decode cX7_answer 7 = .ok (.bipush (-3), 2) := by decide +kernel
theorem dX7_answer_9 : decode cX7_answer 9 = .ok (.ireturn, 1) := by decide +kernel
theorem dX7_answer_10 : decode cX7_answer 10 = .ok (.aload_n 0, 1) := by decide +kernel
theorem dX7_answer_11 : decode cX7_answer 11 = .ok (.invokevirtual 158, 3) := by decide +kernel
theorem dX7_answer_14 : decode cX7_answer 14 = .ok (.aload_n 0, 1) := by decide +kernel
theorem dX7_answer_15 : decode cX7_answer 15 = .ok (.getfield 50, 3) := by decide +kernel
theorem dX7_answer_18 : decode cX7_answer 18 = .ok (.iconst 0, 1) := by decide +kernel
theorem dX7_answer_19 : decode cX7_answer 19 = .ok (.iaload, 1) := by decide +kernel
theorem dX7_answer_20 : decode cX7_answer 20 = .ok (.ireturn, 1) := by decide +kernel
theorem dX7_leadsThere_0 : decode cX7_leadsThere 0 = .ok (.iconst 0, 1) := by decide +kernel
theorem dX7_leadsThere_1 : decode cX7_leadsThere 1 = .ok (.istore_n 2, 1) := by decide +kernel
theorem dX7_leadsThere_2 : decode cX7_leadsThere 2 = .ok (.iconst 0, 1) := by decide +kernel
theorem dX7_leadsThere_3 : decode cX7_leadsThere 3 = .ok (.istore_n 3, 1) := by decide +kernel
theorem dX7_leadsThere_4 : decode cX7_leadsThere 4 = .ok (.iload_n 3, 1) := by decide +kernel
theorem dX7_leadsThere_5 : decode cX7_leadsThere 5 = .ok (.aload_n 0, 1) := by decide +kernel
theorem dX7_leadsThere_6 : decode cX7_leadsThere 6 = .ok (.getfield 71, 3) := by decide +kernel
theorem dX7_leadsThere_9 : decode cX7_leadsThere 9 = .ok (.if_icmp .ge 49, 3) := by decide +kernel
theorem dX7_leadsThere_12 : decode cX7_leadsThere 12 = .ok (.aload_n 0, 1) := by decide +kernel
theorem dX7_leadsThere_13 : decode cX7_leadsThere 13 = .ok (.getfield 47, 3) := by decide +kernel
theorem dX7_leadsThere_16 : decode cX7_leadsThere 16 = .ok (.bipush 12, 2) := by decide +kernel
theorem dX7_leadsThere_18 : decode cX7_leadsThere 18 = .ok (.iload_n 1, 1) := by decide +kernel
theorem dX7_leadsThere_19 : decode cX7_leadsThere 19 = .ok (.imul, 1) := by decide +kernel
theorem dX7_leadsThere_20 : decode cX7_leadsThere 20 = .ok (.iload_n 3, 1) := by decide +kernel
theorem dX7_leadsThere_21 : decode cX7_leadsThere 21 = .ok (.iadd, 1) := by decide +kernel
theorem dX7_leadsThere_22 : decode cX7_leadsThere 22 = .ok (.iaload, 1) := by decide +kernel
theorem dX7_leadsThere_23 : decode cX7_leadsThere 23 = .ok (.istore 4, 2) := by decide +kernel
theorem dX7_leadsThere_25 : decode cX7_leadsThere 25 = .ok (.iload_n 2, 1) := by decide +kernel
theorem dX7_leadsThere_26 : decode cX7_leadsThere 26 = .ok (.ifCond .ne 20, 3) := by decide +kernel
theorem dX7_leadsThere_29 : decode cX7_leadsThere 29 = .ok (.iload 4, 2) := by decide +kernel
theorem dX7_leadsThere_31 : decode cX7_leadsThere 31 = .ok (.bipush (-9), 2) := by decide +kernel
theorem dX7_leadsThere_33 : decode cX7_leadsThere 33 = .ok (.if_icmp .eq 17, 3) := by decide +kernel
theorem dX7_leadsThere_36 : decode cX7_leadsThere 36 = .ok (.aload_n 0, 1) := by decide +kernel
theorem dX7_leadsThere_37 : decode cX7_leadsThere 37 = .ok (.getfield 53, 3) := by decide +kernel
theorem dX7_leadsThere_40 : decode cX7_leadsThere 40 = .ok (.iload 4, 2) := by decide +kernel
theorem dX7_leadsThere_42 : decode cX7_leadsThere 42 = .ok (.baload, 1) := by decide +kernel
theorem dX7_leadsThere_43 : decode cX7_leadsThere 43 = .ok (.ifCond .eq 7, 3) := by decide +kernel
theorem dX7_leadsThere_46 : decode cX7_leadsThere 46 = .ok (.iconst 1, 1) := by decide +kernel
theorem dX7_leadsThere_47 : decode cX7_leadsThere 47 = .ok (.goto 4, 3) := by decide +kernel
theorem dX7_leadsThere_50 : decode cX7_leadsThere 50 = .ok (.iconst 0, 1) := by decide +kernel
theorem dX7_leadsThere_51 : decode cX7_leadsThere 51 = .ok (.istore_n 2, 1) := by decide +kernel
theorem dX7_leadsThere_52 : decode cX7_leadsThere 52 = .ok (.iinc 3 1, 3) := by decide +kernel
theorem dX7_leadsThere_55 : decode cX7_leadsThere 55 = .ok (.goto (-51), 3) := by decide +kernel
theorem dX7_leadsThere_58 : decode cX7_leadsThere 58 = .ok (.iload_n 2, 1) := by decide +kernel
theorem dX7_leadsThere_59 : decode cX7_leadsThere 59 = .ok (.ireturn, 1) := by decide +kernel
set_option maxRecDepth 20000 in
theorem ggX7_isDecided_X7_leadsThere : GoodIn wsX7_isDecided wsX7_leadsThere := goodIn_r _ [8, 9, 10, 2, 11, 12, 13, 14, 15, 16, 17, 18, 19, 20, 21, 22, 23, 24, 25, 26, 27, 28, 29, 30, 31, 32, 33] (by decide +kernel) (by decide +kernel)
set_option maxRecDepth 20000 in
theorem gX7_isDecided_X7_leadsThere : GoodIn wsX7_isDecided (wsV RX7 164 RX7 yX7_leadsThere wsX7_leadsThere) := goodIn_app (goodIn_of _ (by decide +kernel)) ggX7_isDecided_X7_leadsThere
theorem dX7_isDecided_0 : decode cX7_isDecided 0 = .ok (.iconst 0, 1) := by decide +kernel
theorem dX7_isDecided_1 : decode cX7_isDecided 1 = .ok (.istore_n 2, 1) := by decide +kernel
theorem dX7_isDecided_2 : decode cX7_isDecided 2 = .ok (.iload_n 2, 1) := by decide +kernel
theorem dX7_isDecided_3 : decode cX7_isDecided 3 = .ok (.aload_n 0, 1) := by decide +kernel
theorem dX7_isDecided_4 : decode cX7_isDecided 4 = .ok (.getfield 118, 3) := by decide +kernel
theorem dX7_isDecided_7 : decode cX7_isDecided 7 = .ok (.if_icmp .ge 30, 3) := by decide +kernel
theorem dX7_isDecided_10 : decode cX7_isDecided 10 = .ok (.aload_n 0, 1) := by decide +kernel
theorem dX7_isDecided_11 : decode cX7_isDecided 11 = .ok (.getfield 53, 3) := by decide +kernel
theorem dX7_isDecided_14 : decode cX7_isDecided 14 = .ok (.iload_n 2, 1) := by decide +kernel
theorem dX7_isDecided_15 : decode cX7_isDecided 15 = .ok (.aload_n 0, 1) := by decide +kernel
theorem dX7_isDecided_16 : decode cX7_isDecided 16 = .ok (.getfield 50, 3) := by decide +kernel
theorem dX7_isDecided_19 : decode cX7_isDecided 19 = .ok (.iload_n 2, 1) := by decide +kernel
theorem dX7_isDecided_20 : decode cX7_isDecided 20 = .ok (.iaload, 1) := by decide +kernel
theorem dX7_isDecided_21 : decode cX7_isDecided 21 = .ok (.iload_n 1, 1) := by decide +kernel
theorem dX7_isDecided_22 : decode cX7_isDecided 22 = .ok (.if_icmp .ne 7, 3) := by decide +kernel
theorem dX7_isDecided_25 : decode cX7_isDecided 25 = .ok (.iconst 1, 1) := by decide +kernel
theorem dX7_isDecided_26 : decode cX7_isDecided 26 = .ok (.goto 4, 3) := by decide +kernel
theorem dX7_isDecided_29 : decode cX7_isDecided 29 = .ok (.iconst 0, 1) := by decide +kernel
theorem dX7_isDecided_30 : decode cX7_isDecided 30 = .ok (.bastore, 1) := by decide +kernel
theorem dX7_isDecided_31 : decode cX7_isDecided 31 = .ok (.iinc 2 1, 3) := by decide +kernel
theorem dX7_isDecided_34 : decode cX7_isDecided 34 = .ok (.goto (-32), 3) := by decide +kernel
theorem dX7_isDecided_37 : decode cX7_isDecided 37 = .ok (.iconst 1, 1) := by decide +kernel
theorem dX7_isDecided_38 : decode cX7_isDecided 38 = .ok (.istore_n 2, 1) := by decide +kernel
theorem dX7_isDecided_39 : decode cX7_isDecided 39 = .ok (.iload_n 2, 1) := by decide +kernel
theorem dX7_isDecided_40 : decode cX7_isDecided 40 = .ok (.ifCond .eq 50, 3) := by decide +kernel
theorem dX7_isDecided_43 : decode cX7_isDecided 43 = .ok (.iconst 0, 1) := by decide +kernel
theorem dX7_isDecided_44 : decode cX7_isDecided 44 = .ok (.istore_n 2, 1) := by decide +kernel
theorem dX7_isDecided_45 : decode cX7_isDecided 45 = .ok (.iconst 0, 1) := by decide +kernel
theorem dX7_isDecided_46 : decode cX7_isDecided 46 = .ok (.istore_n 3, 1) := by decide +kernel
theorem dX7_isDecided_47 : decode cX7_isDecided 47 = .ok (.iload_n 3, 1) := by decide +kernel
theorem dX7_isDecided_48 : decode cX7_isDecided 48 = .ok (.aload_n 0, 1) := by decide +kernel
theorem dX7_isDecided_49 : decode cX7_isDecided 49 = .ok (.getfield 118, 3) := by decide +kernel
theorem dX7_isDecided_52 : decode cX7_isDecided 52 = .ok (.if_icmp .ge 35, 3) := by decide +kernel
theorem dX7_isDecided_55 : decode cX7_isDecided 55 = .ok (.aload_n 0, 1) := by decide +kernel
theorem dX7_isDecided_56 : decode cX7_isDecided 56 = .ok (.getfield 53, 3) := by decide +kernel
theorem dX7_isDecided_59 : decode cX7_isDecided 59 = .ok (.iload_n 3, 1) := by decide +kernel
theorem dX7_isDecided_60 : decode cX7_isDecided 60 = .ok (.baload, 1) := by decide +kernel
theorem dX7_isDecided_61 : decode cX7_isDecided 61 = .ok (.ifCond .ne 20, 3) := by decide +kernel
theorem dX7_isDecided_64 : decode cX7_isDecided 64 = .ok (.aload_n 0, 1) := by decide +kernel
theorem dX7_isDecided_65 : decode cX7_isDecided 65 = .ok (.iload_n 3, 1) := by decide +kernel
theorem dX7_isDecided_66 : decode cX7_isDecided 66 = .ok (.invokevirtual 164, 3) := by decide +kernel
theorem dX7_isDecided_69 : decode cX7_isDecided 69 = .ok (.ifCond .eq 12, 3) := by decide +kernel
theorem dX7_isDecided_72 : decode cX7_isDecided 72 = .ok (.aload_n 0, 1) := by decide +kernel
theorem dX7_isDecided_73 : decode cX7_isDecided 73 = .ok (.getfield 53, 3) := by decide +kernel
theorem dX7_isDecided_76 : decode cX7_isDecided 76 = .ok (.iload_n 3, 1) := by decide +kernel
theorem dX7_isDecided_77 : decode cX7_isDecided 77 = .ok (.iconst 1, 1) := by decide +kernel
theorem dX7_isDecided_78 : decode cX7_isDecided 78 = .ok (.bastore, 1) := by decide +kernel
theorem dX7_isDecided_79 : decode cX7_isDecided 79 = .ok (.iconst 1, 1) := by decide +kernel
theorem dX7_isDecided_80 : decode cX7_isDecided 80 = .ok (.istore_n 2, 1) := by decide +kernel
theorem dX7_isDecided_81 : decode cX7_isDecided 81 = .ok (.iinc 3 1, 3) := by decide +kernel
theorem dX7_isDecided_84 : decode cX7_isDecided 84 = .ok (.goto (-37), 3) := by decide +kernel
theorem dX7_isDecided_87 : decode cX7_isDecided 87 = .ok (.goto (-48), 3) := by decide +kernel
theorem dX7_isDecided_90 : decode cX7_isDecided 90 = .ok (.iconst 1, 1) := by decide +kernel
theorem dX7_isDecided_91 : decode cX7_isDecided 91 = .ok (.istore_n 3, 1) := by decide +kernel
theorem dX7_isDecided_92 : decode cX7_isDecided 92 = .ok (.iconst 0, 1) := by decide +kernel
theorem dX7_isDecided_93 : decode cX7_isDecided 93 = .ok (.istore 4, 2) := by decide +kernel
theorem dX7_isDecided_95 : decode cX7_isDecided 95 = .ok (.iload 4, 2) := by decide +kernel
theorem dX7_isDecided_97 : decode cX7_isDecided 97 = .ok (.aload_n 0, 1) := by decide +kernel
theorem dX7_isDecided_98 : decode cX7_isDecided 98 = .ok (.getfield 118, 3) := by decide +kernel
theorem dX7_isDecided_101 : decode cX7_isDecided 101 = .ok (.if_icmp .ge 29, 3) := by decide +kernel
theorem dX7_isDecided_104 : decode cX7_isDecided 104 = .ok (.iload_n 3, 1) := by decide +kernel
theorem dX7_isDecided_105 : decode cX7_isDecided 105 = .ok (.ifCond .eq 17, 3) := by decide +kernel
theorem dX7_isDecided_108 : decode cX7_isDecided 108 = .ok (.aload_n 0, 1) := by decide +kernel
theorem dX7_isDecided_109 : decode cX7_isDecided 109 = .ok (.getfield 53, 3) := by decide +kernel
theorem dX7_isDecided_112 : decode cX7_isDecided 112 = .ok (.iload 4, 2) := by decide +kernel
theorem dX7_isDecided_114 : decode cX7_isDecided 114 = .ok (.baload, 1) := by decide +kernel
theorem dX7_isDecided_115 : decode cX7_isDecided 115 = .ok (.ifCond .eq 7, 3) := by decide +kernel
theorem dX7_isDecided_118 : decode cX7_isDecided 118 = .ok (.iconst 1, 1) := by decide +kernel
theorem dX7_isDecided_119 : decode cX7_isDecided 119 = .ok (.goto 4, 3) := by decide +kernel
theorem dX7_isDecided_122 : decode cX7_isDecided 122 = .ok (.iconst 0, 1) := by decide +kernel
theorem dX7_isDecided_123 : decode cX7_isDecided 123 = .ok (.istore_n 3, 1) := by decide +kernel
theorem dX7_isDecided_124 : decode cX7_isDecided 124 = .ok (.iinc 4 1, 3) := by decide +kernel
theorem dX7_isDecided_127 : decode cX7_isDecided 127 = .ok (.goto (-32), 3) := by decide +kernel
theorem dX7_isDecided_130 : decode cX7_isDecided 130 = .ok (.iload_n 3, 1) := by decide +kernel
theorem dX7_isDecided_131 : decode cX7_isDecided 131 = .ok (.ireturn, 1) := by decide +kernel
set_option maxRecDepth 20000 in
theorem ggX7_whatIsDecided_X7_isDecided : GoodIn wsX7_whatIsDecided wsX7_isDecided := goodIn_r _ [5, 6, 7, 8, 9, 10, 11, 4, 12, 13, 14, 15, 16, 17, 18, 19, 20, 21, 22, 23, 24, 25, 26, 27, 28, 29, 30, 31, 32, 33, 34, 35, 36, 37] (by decide +kernel) (by decide +kernel)
set_option maxRecDepth 20000 in
theorem gX7_whatIsDecided_X7_isDecided : GoodIn wsX7_whatIsDecided (wsV RX7 167 RX7 yX7_isDecided wsX7_isDecided) := goodIn_app (goodIn_of _ (by decide +kernel)) ggX7_whatIsDecided_X7_isDecided
theorem dX7_whatIsDecided_0 : decode cX7_whatIsDecided 0 = .ok (.iconst 0, 1) := by decide +kernel
theorem dX7_whatIsDecided_1 : decode cX7_whatIsDecided 1 = .ok (.istore_n 1, 1) := by decide +kernel
theorem dX7_whatIsDecided_2 : decode cX7_whatIsDecided 2 = .ok (.iload_n 1, 1) := by decide +kernel
theorem dX7_whatIsDecided_3 : decode cX7_whatIsDecided 3 = .ok (.iconst 2, 1) := by decide +kernel
theorem dX7_whatIsDecided_4 : decode cX7_whatIsDecided 4 = .ok (.if_icmp .gt 19, 3) := by decide +kernel
theorem dX7_whatIsDecided_7 : decode cX7_whatIsDecided 7 = .ok (.aload_n 0, 1) := by decide +kernel
theorem dX7_whatIsDecided_8 : decode cX7_whatIsDecided 8 = .ok (.iload_n 1, 1) := by decide +kernel
theorem dX7_whatIsDecided_9 : decode cX7_whatIsDecided 9 = .ok (.invokevirtual 167, 3) := by decide +kernel
theorem dX7_whatIsDecided_12 : decode cX7_whatIsDecided 12 = .ok (.ifCond .eq 5, 3) := by decide +kernel
theorem dX7_whatIsDecided_15 : decode cX7_whatIsDecided 15 = .ok (.iload_n 1, 1) := by decide +kernel
theorem dX7_whatIsDecided_16 : decode cX7_whatIsDecided 16 = .ok (.ireturn, 1) := by decide +kernel
theorem dX7_whatIsDecided_17 : decode cX7_whatIsDecided 17 = .ok (.iinc 1 1, 3) := by decide +kernel
theorem dX7_whatIsDecided_20 : decode cX7_whatIsDecided 20 = .ok (.goto (-18), 3) := by decide +kernel
theorem dX7_whatIsDecided_23 : decode cX7_whatIsDecided 23 = .ok (.bipush (-9), 2) := by decide +kernel
theorem dX7_whatIsDecided_25 : decode cX7_whatIsDecided 25 = .ok (.ireturn, 1) := by decide +kernel
set_option maxRecDepth 20000 in
theorem ggX7_decided_X7_findFromAgents : GoodIn wsX7_decided wsX7_findFromAgents := goodIn_r _ [6, 7, 8, 9, 10, 5, 11, 1, 12, 13, 14, 15, 16, 17, 18, 19, 20, 21, 22, 23, 24, 25, 26, 27, 28, 29, 30, 31, 32, 33, 34, 35, 36, 37, 38, 39, 40, 41, 42, 43, 44, 45, 46, 47, 48, 49, 50, 51, 52, 53, 54, 55, 56, 57, 58, 59, 60, 61, 62, 63, 64, 65, 66, 67, 68, 69, 70, 71, 72, 86, 87, 88, 89, 90, 91, 92, 93, 94, 95, 96, 97, 98, 99, 100, 101, 102, 103, 104, 105, 106, 107, 108] (by decide +kernel) (by decide +kernel)
set_option maxRecDepth 20000 in
theorem gX7_decided_X7_findFromAgents : GoodIn wsX7_decided (wsV RX7 158 RX7 yX7_findFromAgents wsX7_findFromAgents) := goodIn_app (goodIn_of _ (by decide +kernel)) ggX7_decided_X7_findFromAgents
set_option maxRecDepth 20000 in
theorem ggX7_decided_X7_whatIsDecided : GoodIn wsX7_decided wsX7_whatIsDecided := goodIn_r _ [76, 77, 78, 79, 5, 80, 23, 81, 63, 82, 83, 84, 85, 24, 27, 86, 87, 88, 89, 90, 91, 92, 93, 94, 95, 96, 97, 98, 99, 100, 101, 102, 103, 104, 105, 106, 107, 108] (by decide +kernel) (by decide +kernel)
set_option maxRecDepth 20000 in
theorem gX7_decided_X7_whatIsDecided : GoodIn wsX7_decided (wsV RX7 170 RX7 yX7_whatIsDecided wsX7_whatIsDecided) := goodIn_app (goodIn_of _ (by decide +kernel)) ggX7_decided_X7_whatIsDecided
theorem dX7_decided_0 : decode cX7_decided 0 = .ok (.aload_n 0, 1) := by decide +kernel
theorem dX7_decided_1 : decode cX7_decided 1 = .ok (.getfield 90, 3) := by decide +kernel
theorem dX7_decided_4 : decode cX7_decided 4 = .ok (.ifCond .ne 6, 3) := by decide +kernel
theorem dX7_decided_7 : decode cX7_decided 7 = .ok (.bipush (-3), 2) := by decide +kernel
theorem dX7_decided_9 : decode cX7_decided 9 = .ok (.ireturn, 1) := by decide +kernel
theorem dX7_decided_10 : decode cX7_decided 10 = .ok (.aload_n 0, 1) := by decide +kernel
theorem dX7_decided_11 : decode cX7_decided 11 = .ok (.invokevirtual 158, 3) := by decide +kernel
theorem dX7_decided_14 : decode cX7_decided 14 = .ok (.aload_n 0, 1) := by decide +kernel
theorem dX7_decided_15 : decode cX7_decided 15 = .ok (.invokevirtual 170, 3) := by decide +kernel
theorem dX7_decided_18 : decode cX7_decided 18 = .ok (.ireturn, 1) := by decide +kernel
set_option maxRecDepth 20000 in
theorem ggX7_soonest_X7_findFromAgents : GoodIn wsX7_soonest wsX7_findFromAgents := goodIn_r _ [9, 10, 11, 12, 13, 8, 14, 1, 15, 16, 17, 18, 19, 20, 21, 22, 23, 24, 25, 2, 26, 27, 28, 29, 30, 31, 32, 33, 34, 4, 35, 36, 37, 38, 39, 40, 41, 42, 43, 44, 45, 46, 47, 48, 49, 50, 51, 52, 53, 54, 55, 56, 57, 58, 59, 60, 61, 62, 63, 3, 64, 65, 66, 67, 68, 69, 70, 71, 72, 73, 74, 75, 76, 77, 78, 79, 80, 81, 82, 83, 84, 85, 86, 87, 88, 89, 90, 91, 92, 93, 94, 95] (by decide +kernel) (by decide +kernel)
set_option maxRecDepth 20000 in
theorem gX7_soonest_X7_findFromAgents : GoodIn wsX7_soonest (wsV RX7 158 RX7 yX7_findFromAgents wsX7_findFromAgents) := goodIn_app (goodIn_of _ (by decide +kernel)) ggX7_soonest_X7_findFromAgents
theorem dX7_soonest_0 : decode cX7_soonest 0 = .ok (.aload_n 0, 1) := by decide +kernel
theorem dX7_soonest_1 : decode cX7_soonest 1 = .ok (.getfield 90, 3) := by decide +kernel
theorem dX7_soonest_4 : decode cX7_soonest 4 = .ok (.ifCond .ne 6, 3) := by decide +kernel
theorem dX7_soonest_7 : decode cX7_soonest 7 = .ok (.bipush (-3), 2) := by decide +kernel
theorem dX7_soonest_9 : decode cX7_soonest 9 = .ok (.ireturn, 1) := by decide +kernel
theorem dX7_soonest_10 : decode cX7_soonest 10 = .ok (.aload_n 0, 1) := by decide +kernel
theorem dX7_soonest_11 : decode cX7_soonest 11 = .ok (.invokevirtual 158, 3) := by decide +kernel
theorem dX7_soonest_14 : decode cX7_soonest 14 = .ok (.iconst 0, 1) := by decide +kernel
theorem dX7_soonest_15 : decode cX7_soonest 15 = .ok (.istore_n 1, 1) := by decide +kernel
theorem dX7_soonest_16 : decode cX7_soonest 16 = .ok (.iload_n 1, 1) := by decide +kernel
theorem dX7_soonest_17 : decode cX7_soonest 17 = .ok (.aload_n 0, 1) := by decide +kernel
theorem dX7_soonest_18 : decode cX7_soonest 18 = .ok (.getfield 118, 3) := by decide +kernel
theorem dX7_soonest_21 : decode cX7_soonest 21 = .ok (.if_icmp .ge 27, 3) := by decide +kernel
theorem dX7_soonest_24 : decode cX7_soonest 24 = .ok (.aload_n 0, 1) := by decide +kernel
theorem dX7_soonest_25 : decode cX7_soonest 25 = .ok (.getfield 50, 3) := by decide +kernel
theorem dX7_soonest_28 : decode cX7_soonest 28 = .ok (.iload_n 1, 1) := by decide +kernel
theorem dX7_soonest_29 : decode cX7_soonest 29 = .ok (.iaload, 1) := by decide +kernel
theorem dX7_soonest_30 : decode cX7_soonest 30 = .ok (.bipush (-9), 2) := by decide +kernel
theorem dX7_soonest_32 : decode cX7_soonest 32 = .ok (.if_icmp .eq 10, 3) := by decide +kernel
theorem dX7_soonest_35 : decode cX7_soonest 35 = .ok (.aload_n 0, 1) := by decide +kernel
theorem dX7_soonest_36 : decode cX7_soonest 36 = .ok (.getfield 44, 3) := by decide +kernel
theorem dX7_soonest_39 : decode cX7_soonest 39 = .ok (.iload_n 1, 1) := by decide +kernel
theorem dX7_soonest_40 : decode cX7_soonest 40 = .ok (.iaload, 1) := by decide +kernel
theorem dX7_soonest_41 : decode cX7_soonest 41 = .ok (.ireturn, 1) := by decide +kernel
theorem dX7_soonest_42 : decode cX7_soonest 42 = .ok (.iinc 1 1, 3) := by decide +kernel
theorem dX7_soonest_45 : decode cX7_soonest 45 = .ok (.goto (-29), 3) := by decide +kernel
theorem dX7_soonest_48 : decode cX7_soonest 48 = .ok (.bipush (-9), 2) := by decide +kernel
theorem dX7_soonest_50 : decode cX7_soonest 50 = .ok (.ireturn, 1) := by decide +kernel
theorem dX7_knows_0 : decode cX7_knows 0 = .ok (.iconst 0, 1) := by decide +kernel
theorem dX7_knows_1 : decode cX7_knows 1 = .ok (.istore_n 2, 1) := by decide +kernel
theorem dX7_knows_2 : decode cX7_knows 2 = .ok (.iconst 0, 1) := by decide +kernel
theorem dX7_knows_3 : decode cX7_knows 3 = .ok (.istore_n 3, 1) := by decide +kernel
theorem dX7_knows_4 : decode cX7_knows 4 = .ok (.iload_n 3, 1) := by decide +kernel
theorem dX7_knows_5 : decode cX7_knows 5 = .ok (.aload_n 0, 1) := by decide +kernel
theorem dX7_knows_6 : decode cX7_knows 6 = .ok (.getfield 71, 3) := by decide +kernel
theorem dX7_knows_9 : decode cX7_knows 9 = .ok (.if_icmp .ge 77, 3) := by decide +kernel
theorem dX7_knows_12 : decode cX7_knows 12 = .ok (.aload_n 0, 1) := by decide +kernel
theorem dX7_knows_13 : decode cX7_knows 13 = .ok (.getfield 47, 3) := by decide +kernel
theorem dX7_knows_16 : decode cX7_knows 16 = .ok (.bipush 12, 2) := by decide +kernel
theorem dX7_knows_18 : decode cX7_knows 18 = .ok (.iload_n 1, 1) := by decide +kernel
theorem dX7_knows_19 : decode cX7_knows 19 = .ok (.imul, 1) := by decide +kernel
theorem dX7_knows_20 : decode cX7_knows 20 = .ok (.iload_n 3, 1) := by decide +kernel
theorem dX7_knows_21 : decode cX7_knows 21 = .ok (.iadd, 1) := by decide +kernel
theorem dX7_knows_22 : decode cX7_knows 22 = .ok (.iaload, 1) := by decide +kernel
theorem dX7_knows_23 : decode cX7_knows 23 = .ok (.istore 4, 2) := by decide +kernel
theorem dX7_knows_25 : decode cX7_knows 25 = .ok (.iload 4, 2) := by decide +kernel
theorem dX7_knows_27 : decode cX7_knows 27 = .ok (.bipush (-9), 2) := by decide +kernel
theorem dX7_knows_29 : decode cX7_knows 29 = .ok (.if_icmp .eq 17, 3) := by decide +kernel
theorem dX7_knows_32 : decode cX7_knows 32 = .ok (.aload_n 0, 1) := by decide +kernel
theorem dX7_knows_33 : decode cX7_knows 33 = .ok (.getfield 57, 3) := by decide +kernel
theorem dX7_knows_36 : decode cX7_knows 36 = .ok (.iload 4, 2) := by decide +kernel
theorem dX7_knows_38 : decode cX7_knows 38 = .ok (.iaload, 1) := by decide +kernel
theorem dX7_knows_39 : decode cX7_knows 39 = .ok (.bipush (-9), 2) := by decide +kernel
theorem dX7_knows_41 : decode cX7_knows 41 = .ok (.if_icmp .ne 5, 3) := by decide +kernel
theorem dX7_knows_44 : decode cX7_knows 44 = .ok (.iconst 0, 1) := by decide +kernel
theorem dX7_knows_45 : decode cX7_knows 45 = .ok (.ireturn, 1) := by decide +kernel
theorem dX7_knows_46 : decode cX7_knows 46 = .ok (.iload 4, 2) := by decide +kernel
theorem dX7_knows_48 : decode cX7_knows 48 = .ok (.bipush (-9), 2) := by decide +kernel
theorem dX7_knows_50 : decode cX7_knows 50 = .ok (.if_icmp .eq 28, 3) := by decide +kernel
theorem dX7_knows_53 : decode cX7_knows 53 = .ok (.aload_n 0, 1) := by decide +kernel
theorem dX7_knows_54 : decode cX7_knows 54 = .ok (.getfield 57, 3) := by decide +kernel
theorem dX7_knows_57 : decode cX7_knows 57 = .ok (.iload 4, 2) := by decide +kernel
theorem dX7_knows_59 : decode cX7_knows 59 = .ok (.iaload, 1) := by decide +kernel
theorem dX7_knows_60 : decode cX7_knows 60 = .ok (.iconst 1, 1) := by decide +kernel
theorem dX7_knows_61 : decode cX7_knows 61 = .ok (.iadd, 1) := by decide +kernel
theorem dX7_knows_62 : decode cX7_knows 62 = .ok (.iload_n 2, 1) := by decide +kernel
theorem dX7_knows_63 : decode cX7_knows 63 = .ok (.if_icmp .le 15, 3) := by decide +kernel
theorem dX7_knows_66 : decode cX7_knows 66 = .ok (.aload_n 0, 1) := by decide +kernel
theorem dX7_knows_67 : decode cX7_knows 67 = .ok (.getfield 57, 3) := by decide +kernel
theorem dX7_knows_70 : decode cX7_knows 70 = .ok (.iload 4, 2) := by decide +kernel
theorem dX7_knows_72 : decode cX7_knows 72 = .ok (.iaload, 1) := by decide +kernel
theorem dX7_knows_73 : decode cX7_knows 73 = .ok (.iconst 1, 1) := by decide +kernel
theorem dX7_knows_74 : decode cX7_knows 74 = .ok (.iadd, 1) := by decide +kernel
theorem dX7_knows_75 : decode cX7_knows 75 = .ok (.goto 4, 3) := by decide +kernel
theorem dX7_knows_78 : decode cX7_knows 78 = .ok (.iload_n 2, 1) := by decide +kernel
theorem dX7_knows_79 : decode cX7_knows 79 = .ok (.istore_n 2, 1) := by decide +kernel
theorem dX7_knows_80 : decode cX7_knows 80 = .ok (.iinc 3 1, 3) := by decide +kernel
theorem dX7_knows_83 : decode cX7_knows 83 = .ok (.goto (-79), 3) := by decide +kernel
theorem dX7_knows_86 : decode cX7_knows 86 = .ok (.aload_n 0, 1) := by decide +kernel
theorem dX7_knows_87 : decode cX7_knows 87 = .ok (.getfield 57, 3) := by decide +kernel
theorem dX7_knows_90 : decode cX7_knows 90 = .ok (.iload_n 1, 1) := by decide +kernel
theorem dX7_knows_91 : decode cX7_knows 91 = .ok (.iload_n 2, 1) := by decide +kernel
theorem dX7_knows_92 : decode cX7_knows 92 = .ok (.iastore, 1) := by decide +kernel
theorem dX7_knows_93 : decode cX7_knows 93 = .ok (.iconst 1, 1) := by decide +kernel
theorem dX7_knows_94 : decode cX7_knows 94 = .ok (.ireturn, 1) := by decide +kernel
set_option maxRecDepth 20000 in
theorem ggX7_longest_X7_findFromAgents : GoodIn wsX7_longest wsX7_findFromAgents := goodIn_r _ [8, 9, 10, 11, 12, 7, 13, 1, 14, 15, 16, 17, 18, 19, 20, 21, 22, 23, 24, 2, 25, 26, 27, 28, 29, 30, 31, 32, 33, 34, 35, 36, 37, 38, 39, 40, 41, 42, 43, 44, 45, 46, 47, 48, 49, 50, 51, 52, 53, 54, 55, 56, 57, 58, 59, 60, 61, 62, 63, 64, 65, 66, 67, 68, 69, 70, 71, 72, 73, 78, 79, 80, 81, 82, 83, 84, 85, 86, 87, 88, 89, 90, 91, 92, 93, 94, 95, 96, 97, 98, 99, 100] (by decide +kernel) (by decide +kernel)
set_option maxRecDepth 20000 in
theorem gX7_longest_X7_findFromAgents : GoodIn wsX7_longest (wsV RX7 158 RX7 yX7_findFromAgents wsX7_findFromAgents) := goodIn_app (goodIn_of _ (by decide +kernel)) ggX7_longest_X7_findFromAgents
set_option maxRecDepth 20000 in
theorem ggX7_longest_X7_knows : GoodIn wsX7_longest wsX7_knows := goodIn_r _ [77, 25, 28, 3, 78, 79, 80, 81, 82, 83, 84, 85, 86, 87, 88, 89, 90, 91, 92, 93, 94, 95, 96, 97, 98, 99, 100] (by decide +kernel) (by decide +kernel)
set_option maxRecDepth 20000 in
theorem gX7_longest_X7_knows : GoodIn wsX7_longest (wsV RX7 174 RX7 yX7_knows wsX7_knows) := goodIn_app (goodIn_of _ (by decide +kernel)) ggX7_longest_X7_knows
theorem dX7_longest_0 : decode cX7_longest 0 = .ok (.aload_n 0, 1) := by decide +kernel
theorem dX7_longest_1 : decode cX7_longest 1 = .ok (.getfield 90, 3) := by decide +kernel
theorem dX7_longest_4 : decode cX7_longest 4 = .ok (.ifCond .ne 6, 3) := by decide +kernel
theorem dX7_longest_7 : decode cX7_longest 7 = .ok (.bipush (-3), 2) := by decide +kernel
theorem dX7_longest_9 : decode cX7_longest 9 = .ok (.ireturn, 1) := by decide +kernel
theorem dX7_longest_10 : decode cX7_longest 10 = .ok (.aload_n 0, 1) := by decide +kernel
theorem dX7_longest_11 : decode cX7_longest 11 = .ok (.invokevirtual 158, 3) := by decide +kernel
theorem dX7_longest_14 : decode cX7_longest 14 = .ok (.iconst 0, 1) := by decide +kernel
theorem dX7_longest_15 : decode cX7_longest 15 = .ok (.istore_n 1, 1) := by decide +kernel
theorem dX7_longest_16 : decode cX7_longest 16 = .ok (.iload_n 1, 1) := by decide +kernel
theorem dX7_longest_17 : decode cX7_longest 17 = .ok (.aload_n 0, 1) := by decide +kernel
theorem dX7_longest_18 : decode cX7_longest 18 = .ok (.getfield 118, 3) := by decide +kernel
theorem dX7_longest_21 : decode cX7_longest 21 = .ok (.if_icmp .ge 17, 3) := by decide +kernel
theorem dX7_longest_24 : decode cX7_longest 24 = .ok (.aload_n 0, 1) := by decide +kernel
theorem dX7_longest_25 : decode cX7_longest 25 = .ok (.getfield 57, 3) := by decide +kernel
theorem dX7_longest_28 : decode cX7_longest 28 = .ok (.iload_n 1, 1) := by decide +kernel
theorem dX7_longest_29 : decode cX7_longest 29 = .ok (.bipush (-9), 2) := by decide +kernel
theorem dX7_longest_31 : decode cX7_longest 31 = .ok (.iastore, 1) := by decide +kernel
theorem dX7_longest_32 : decode cX7_longest 32 = .ok (.iinc 1 1, 3) := by decide +kernel
theorem dX7_longest_35 : decode cX7_longest 35 = .ok (.goto (-19), 3) := by decide +kernel
theorem dX7_longest_38 : decode cX7_longest 38 = .ok (.iconst 1, 1) := by decide +kernel
theorem dX7_longest_39 : decode cX7_longest 39 = .ok (.istore_n 1, 1) := by decide +kernel
theorem dX7_longest_40 : decode cX7_longest 40 = .ok (.iload_n 1, 1) := by decide +kernel
theorem dX7_longest_41 : decode cX7_longest 41 = .ok (.ifCond .eq 53, 3) := by decide +kernel
theorem dX7_longest_44 : decode cX7_longest 44 = .ok (.iconst 0, 1) := by decide +kernel
theorem dX7_longest_45 : decode cX7_longest 45 = .ok (.istore_n 1, 1) := by decide +kernel
theorem dX7_longest_46 : decode cX7_longest 46 = .ok (.iconst 0, 1) := by decide +kernel
theorem dX7_longest_47 : decode cX7_longest 47 = .ok (.istore_n 2, 1) := by decide +kernel
theorem dX7_longest_48 : decode cX7_longest 48 = .ok (.iload_n 2, 1) := by decide +kernel
theorem dX7_longest_49 : decode cX7_longest 49 = .ok (.aload_n 0, 1) := by decide +kernel
theorem dX7_longest_50 : decode cX7_longest 50 = .ok (.getfield 118, 3) := by decide +kernel
theorem dX7_longest_53 : decode cX7_longest 53 = .ok (.if_icmp .ge 38, 3) := by decide +kernel
theorem dX7_longest_56 : decode cX7_longest 56 = .ok (.aload_n 0, 1) := by decide +kernel
theorem dX7_longest_57 : decode cX7_longest 57 = .ok (.getfield 57, 3) := by decide +kernel
theorem dX7_longest_60 : decode cX7_longest 60 = .ok (.iload_n 2, 1) := by decide +kernel
theorem dX7_longest_61 : decode cX7_longest 61 = .ok (.iaload, 1) := by decide +kernel
theorem dX7_longest_62 : decode cX7_longest 62 = .ok (.bipush (-9), 2) := by decide +kernel
theorem dX7_longest_64 : decode cX7_longest 64 = .ok (.if_icmp .ne 11, 3) := by decide +kernel
theorem dX7_longest_67 : decode cX7_longest 67 = .ok (.aload_n 0, 1) := by decide +kernel
theorem dX7_longest_68 : decode cX7_longest 68 = .ok (.iload_n 2, 1) := by decide +kernel
theorem dX7_longest_69 : decode cX7_longest 69 = .ok (.invokevirtual 174, 3) := by decide +kernel
theorem dX7_longest_72 : decode cX7_longest 72 = .ok (.ifCond .ne 7, 3) := by decide +kernel
theorem dX7_longest_75 : decode cX7_longest 75 = .ok (.iload_n 1, 1) := by decide +kernel
theorem dX7_longest_76 : decode cX7_longest 76 = .ok (.ifCond .eq 7, 3) := by decide +kernel
theorem dX7_longest_79 : decode cX7_longest 79 = .ok (.iconst 1, 1) := by decide +kernel
theorem dX7_longest_80 : decode cX7_longest 80 = .ok (.goto 4, 3) := by decide +kernel
theorem dX7_longest_83 : decode cX7_longest 83 = .ok (.iconst 0, 1) := by decide +kernel
theorem dX7_longest_84 : decode cX7_longest 84 = .ok (.istore_n 1, 1) := by decide +kernel
theorem dX7_longest_85 : decode cX7_longest 85 = .ok (.iinc 2 1, 3) := by decide +kernel
theorem dX7_longest_88 : decode cX7_longest 88 = .ok (.goto (-40), 3) := by decide +kernel
theorem dX7_longest_91 : decode cX7_longest 91 = .ok (.goto (-51), 3) := by decide +kernel
theorem dX7_longest_94 : decode cX7_longest 94 = .ok (.aload_n 0, 1) := by decide +kernel
theorem dX7_longest_95 : decode cX7_longest 95 = .ok (.getfield 57, 3) := by decide +kernel
theorem dX7_longest_98 : decode cX7_longest 98 = .ok (.iconst 0, 1) := by decide +kernel
theorem dX7_longest_99 : decode cX7_longest 99 = .ok (.iaload, 1) := by decide +kernel
theorem dX7_longest_100 : decode cX7_longest 100 = .ok (.ireturn, 1) := by decide +kernel
theorem dX7_meetsOnce_0 : decode cX7_meetsOnce 0 = .ok (.aload_n 0, 1) := by decide +kernel
theorem dX7_meetsOnce_1 : decode cX7_meetsOnce 1 = .ok (.getfield 90, 3) := by decide +kernel
theorem dX7_meetsOnce_4 : decode cX7_meetsOnce 4 = .ok (.i2l, 1) := by decide +kernel
theorem dX7_meetsOnce_5 : decode cX7_meetsOnce 5 = .ok (.aload_n 0, 1) := by decide +kernel
theorem dX7_meetsOnce_6 : decode cX7_meetsOnce 6 = .ok (.getfield 90, 3) := by decide +kernel
theorem dX7_meetsOnce_9 : decode cX7_meetsOnce 9 = .ok (.iconst 1, 1) := by decide +kernel
theorem dX7_meetsOnce_10 : decode cX7_meetsOnce 10 = .ok (.isub, 1) := by decide +kernel
theorem dX7_meetsOnce_11 : decode cX7_meetsOnce 11 = .ok (.i2l, 1) := by decide +kernel
theorem dX7_meetsOnce_12 : decode cX7_meetsOnce 12 = .ok (.lmul, 1) := by decide +kernel
theorem dX7_meetsOnce_13 : decode cX7_meetsOnce 13 = .ok (.lstore_n 2, 1) := by decide +kernel
theorem dX7_meetsOnce_14 : decode cX7_meetsOnce 14 = .ok (.iconst 0, 1) := by decide +kernel
theorem dX7_meetsOnce_15 : decode cX7_meetsOnce 15 = .ok (.istore 4, 2) := by decide +kernel
theorem dX7_meetsOnce_17 : decode cX7_meetsOnce 17 = .ok (.iload 4, 2) := by decide +kernel
theorem dX7_meetsOnce_19 : decode cX7_meetsOnce 19 = .ok (.aload_n 0, 1) := by decide +kernel
theorem dX7_meetsOnce_20 : decode cX7_meetsOnce 20 = .ok (.getfield 71, 3) := by decide +kernel
theorem dX7_meetsOnce_23 : decode cX7_meetsOnce 23 = .ok (.if_icmp .ge 124, 3) := by decide +kernel
theorem dX7_meetsOnce_26 : decode cX7_meetsOnce 26 = .ok (.aload_n 0, 1) := by decide +kernel
theorem dX7_meetsOnce_27 : decode cX7_meetsOnce 27 = .ok (.getfield 47, 3) := by decide +kernel
theorem dX7_meetsOnce_30 : decode cX7_meetsOnce 30 = .ok (.bipush 12, 2) := by decide +kernel
theorem dX7_meetsOnce_32 : decode cX7_meetsOnce 32 = .ok (.iload_n 1, 1) := by decide +kernel
theorem dX7_meetsOnce_33 : decode cX7_meetsOnce 33 = .ok (.imul, 1) := by decide +kernel
theorem dX7_meetsOnce_34 : decode cX7_meetsOnce 34 = .ok (.iload 4, 2) := by decide +kernel
theorem dX7_meetsOnce_36 : decode cX7_meetsOnce 36 = .ok (.iadd, 1) := by decide +kernel
theorem dX7_meetsOnce_37 : decode cX7_meetsOnce 37 = .ok (.iaload, 1) := by decide +kernel
theorem dX7_meetsOnce_38 : decode cX7_meetsOnce 38 = .ok (.istore 5, 2) := by decide +kernel
theorem dX7_meetsOnce_40 : decode cX7_meetsOnce 40 = .ok (.iload 5, 2) := by decide +kernel
theorem dX7_meetsOnce_42 : decode cX7_meetsOnce 42 = .ok (.bipush (-9), 2) := by decide +kernel
theorem dX7_meetsOnce_44 : decode cX7_meetsOnce 44 = .ok (.if_icmp .eq 97, 3) := by decide +kernel
theorem dX7_meetsOnce_47 : decode cX7_meetsOnce 47 = .ok (.aload_n 0, 1) := by decide +kernel
theorem dX7_meetsOnce_48 : decode cX7_meetsOnce 48 = .ok (.getfield 38, 3) := by decide +kernel
theorem dX7_meetsOnce_51 : decode cX7_meetsOnce 51 = .ok (.bipush 6, 2) := by decide +kernel
theorem dX7_meetsOnce_53 : decode cX7_meetsOnce 53 = .ok (.iload_n 1, 1) := by decide +kernel
theorem dX7_meetsOnce_54 : decode cX7_meetsOnce 54 = .ok (.imul, 1) := by decide +kernel
theorem dX7_meetsOnce_55 : decode cX7_meetsOnce 55 = .ok (.aload_n 0, 1) := by decide +kernel
theorem dX7_meetsOnce_56 : decode cX7_meetsOnce 56 = .ok (.getfield 7, 3) := by decide +kernel
theorem dX7_meetsOnce_59 : decode cX7_meetsOnce 59 = .ok (.iload 4, 2) := by decide +kernel
theorem dX7_meetsOnce_61 : decode cX7_meetsOnce 61 = .ok (.iaload, 1) := by decide +kernel
theorem dX7_meetsOnce_62 : decode cX7_meetsOnce 62 = .ok (.iadd, 1) := by decide +kernel
theorem dX7_meetsOnce_63 : decode cX7_meetsOnce 63 = .ok (.iaload, 1) := by decide +kernel
theorem dX7_meetsOnce_64 : decode cX7_meetsOnce 64 = .ok (.istore 6, 2) := by decide +kernel
theorem dX7_meetsOnce_66 : decode cX7_meetsOnce 66 = .ok (.aload_n 0, 1) := by decide +kernel
theorem dX7_meetsOnce_67 : decode cX7_meetsOnce 67 = .ok (.getfield 38, 3) := by decide +kernel
theorem dX7_meetsOnce_70 : decode cX7_meetsOnce 70 = .ok (.bipush 6, 2) := by decide +kernel
theorem dX7_meetsOnce_72 : decode cX7_meetsOnce 72 = .ok (.iload_n 1, 1) := by decide +kernel
theorem dX7_meetsOnce_73 : decode cX7_meetsOnce 73 = .ok (.imul, 1) := by decide +kernel
theorem dX7_meetsOnce_74 : decode cX7_meetsOnce 74 = .ok (.aload_n 0, 1) := by decide +kernel
theorem dX7_meetsOnce_75 : decode cX7_meetsOnce 75 = .ok (.getfield 13, 3) := by decide +kernel
theorem dX7_meetsOnce_78 : decode cX7_meetsOnce 78 = .ok (.iload 4, 2) := by decide +kernel
theorem dX7_meetsOnce_80 : decode cX7_meetsOnce 80 = .ok (.iaload, 1) := by decide +kernel
theorem dX7_meetsOnce_81 : decode cX7_meetsOnce 81 = .ok (.iadd, 1) := by decide +kernel
theorem dX7_meetsOnce_82 : decode cX7_meetsOnce 82 = .ok (.iaload, 1) := by decide +kernel
theorem dX7_meetsOnce_83 : decode cX7_meetsOnce 83 = .ok (.aload_n 0, 1) := by decide +kernel
theorem dX7_meetsOnce_84 : decode cX7_meetsOnce 84 = .ok (.getfield 7, 3) := by decide +kernel
theorem dX7_meetsOnce_87 : decode cX7_meetsOnce 87 = .ok (.iload 4, 2) := by decide +kernel
theorem dX7_meetsOnce_89 : decode cX7_meetsOnce 89 = .ok (.iaload, 1) := by decide +kernel
theorem dX7_meetsOnce_90 : decode cX7_meetsOnce 90 = .ok (.aload_n 0, 1) := by decide +kernel
theorem dX7_meetsOnce_91 : decode cX7_meetsOnce 91 = .ok (.getfield 13, 3) := by decide +kernel
theorem dX7_meetsOnce_94 : decode cX7_meetsOnce 94 = .ok (.iload 4, 2) := by decide +kernel
theorem dX7_meetsOnce_96 : decode cX7_meetsOnce 96 = .ok (.iaload, 1) := by decide +kernel
theorem dX7_meetsOnce_97 : decode cX7_meetsOnce 97 = .ok (.if_icmp .ne 7, 3) := by decide +kernel
theorem dX7_meetsOnce_100 : decode cX7_meetsOnce 100 = .ok (.iconst 1, 1) := by decide +kernel
theorem dX7_meetsOnce_101 : decode cX7_meetsOnce 101 = .ok (.goto 4, 3) := by decide +kernel
theorem dX7_meetsOnce_104 : decode cX7_meetsOnce 104 = .ok (.iconst 0, 1) := by decide +kernel
theorem dX7_meetsOnce_105 : decode cX7_meetsOnce 105 = .ok (.isub, 1) := by decide +kernel
theorem dX7_meetsOnce_106 : decode cX7_meetsOnce 106 = .ok (.istore 7, 2) := by decide +kernel
theorem dX7_meetsOnce_108 : decode cX7_meetsOnce 108 = .ok (.aload_n 0, 1) := by decide +kernel
theorem dX7_meetsOnce_109 : decode cX7_meetsOnce 109 = .ok (.getfield 64, 3) := by decide +kernel
theorem dX7_meetsOnce_112 : decode cX7_meetsOnce 112 = .ok (.iload 5, 2) := by decide +kernel
theorem dX7_meetsOnce_114 : decode cX7_meetsOnce 114 = .ok (.dup2, 1) := by decide +kernel
theorem dX7_meetsOnce_115 : decode cX7_meetsOnce 115 = .ok (.laload, 1) := by decide +kernel
theorem dX7_meetsOnce_116 : decode cX7_meetsOnce 116 = .ok (.aload_n 0, 1) := by decide +kernel
theorem dX7_meetsOnce_117 : decode cX7_meetsOnce 117 = .ok (.getfield 60, 3) := by decide +kernel
theorem dX7_meetsOnce_120 : decode cX7_meetsOnce 120 = .ok (.iload_n 1, 1) := by decide +kernel
theorem dX7_meetsOnce_121 : decode cX7_meetsOnce 121 = .ok (.laload, 1) := by decide +kernel
theorem dX7_meetsOnce_122 : decode cX7_meetsOnce 122 = .ok (.iload 6, 2) := by decide +kernel
theorem dX7_meetsOnce_124 : decode cX7_meetsOnce 124 = .ok (.i2l, 1) := by decide +kernel
theorem dX7_meetsOnce_125 : decode cX7_meetsOnce 125 = .ok (.lmul, 1) := by decide +kernel
theorem dX7_meetsOnce_126 : decode cX7_meetsOnce 126 = .ok (.iload 7, 2) := by decide +kernel
theorem dX7_meetsOnce_128 : decode cX7_meetsOnce 128 = .ok (.i2l, 1) := by decide +kernel
theorem dX7_meetsOnce_129 : decode cX7_meetsOnce 129 = .ok (.lmul, 1) := by decide +kernel
theorem dX7_meetsOnce_130 : decode cX7_meetsOnce 130 = .ok (.ladd, 1) := by decide +kernel
theorem dX7_meetsOnce_131 : decode cX7_meetsOnce 131 = .ok (.lastore, 1) := by decide +kernel
theorem dX7_meetsOnce_132 : decode cX7_meetsOnce 132 = .ok (.lload_n 2, 1) := by decide +kernel
theorem dX7_meetsOnce_133 : decode cX7_meetsOnce 133 = .ok (.iload 6, 2) := by decide +kernel
theorem dX7_meetsOnce_135 : decode cX7_meetsOnce 135 = .ok (.iload 7, 2) := by decide +kernel
theorem dX7_meetsOnce_137 : decode cX7_meetsOnce 137 = .ok (.imul, 1) := by decide +kernel
theorem dX7_meetsOnce_138 : decode cX7_meetsOnce 138 = .ok (.i2l, 1) := by decide +kernel
theorem dX7_meetsOnce_139 : decode cX7_meetsOnce 139 = .ok (.lsub, 1) := by decide +kernel
theorem dX7_meetsOnce_140 : decode cX7_meetsOnce 140 = .ok (.lstore_n 2, 1) := by decide +kernel
theorem dX7_meetsOnce_141 : decode cX7_meetsOnce 141 = .ok (.iinc 4 1, 3) := by decide +kernel
theorem dX7_meetsOnce_144 : decode cX7_meetsOnce 144 = .ok (.goto (-127), 3) := by decide +kernel
theorem dX7_meetsOnce_147 : decode cX7_meetsOnce 147 = .ok (.aload_n 0, 1) := by decide +kernel
theorem dX7_meetsOnce_148 : decode cX7_meetsOnce 148 = .ok (.getfield 64, 3) := by decide +kernel
theorem dX7_meetsOnce_151 : decode cX7_meetsOnce 151 = .ok (.iload_n 1, 1) := by decide +kernel
theorem dX7_meetsOnce_152 : decode cX7_meetsOnce 152 = .ok (.dup2, 1) := by decide +kernel
theorem dX7_meetsOnce_153 : decode cX7_meetsOnce 153 = .ok (.laload, 1) := by decide +kernel
theorem dX7_meetsOnce_154 : decode cX7_meetsOnce 154 = .ok (.aload_n 0, 1) := by decide +kernel
theorem dX7_meetsOnce_155 : decode cX7_meetsOnce 155 = .ok (.getfield 60, 3) := by decide +kernel
theorem dX7_meetsOnce_158 : decode cX7_meetsOnce 158 = .ok (.iload_n 1, 1) := by decide +kernel
theorem dX7_meetsOnce_159 : decode cX7_meetsOnce 159 = .ok (.laload, 1) := by decide +kernel
theorem dX7_meetsOnce_160 : decode cX7_meetsOnce 160 = .ok (.lload_n 2, 1) := by decide +kernel
theorem dX7_meetsOnce_161 : decode cX7_meetsOnce 161 = .ok (.lmul, 1) := by decide +kernel
theorem dX7_meetsOnce_162 : decode cX7_meetsOnce 162 = .ok (.ladd, 1) := by decide +kernel
theorem dX7_meetsOnce_163 : decode cX7_meetsOnce 163 = .ok (.lastore, 1) := by decide +kernel
theorem dX7_meetsOnce_164 : decode cX7_meetsOnce 164 = .ok (.return_, 1) := by decide +kernel
theorem dX7_common_0 : decode cX7_common 0 = .ok (.lload_n 0, 1) := by decide +kernel
theorem dX7_common_1 : decode cX7_common 1 = .ok (.lstore 4, 2) := by decide +kernel
theorem dX7_common_3 : decode cX7_common 3 = .ok (.lload_n 2, 1) := by decide +kernel
theorem dX7_common_4 : decode cX7_common 4 = .ok (.lstore 6, 2) := by decide +kernel
theorem dX7_common_6 : decode cX7_common 6 = .ok (.lload 6, 2) := by decide +kernel
theorem dX7_common_8 : decode cX7_common 8 = .ok (.lconst 0, 1) := by decide +kernel
theorem dX7_common_9 : decode cX7_common 9 = .ok (.lcmp, 1) := by decide +kernel
theorem dX7_common_10 : decode cX7_common 10 = .ok (.ifCond .le 21, 3) := by decide +kernel
theorem dX7_common_13 : decode cX7_common 13 = .ok (.lload 4, 2) := by decide +kernel
theorem dX7_common_15 : decode cX7_common 15 = .ok (.lload 6, 2) := by decide +kernel
theorem dX7_common_17 : decode cX7_common 17 = .ok (.lrem, 1) := by decide +kernel
theorem dX7_common_18 : decode cX7_common 18 = .ok (.lstore 8, 2) := by decide +kernel
theorem dX7_common_20 : decode cX7_common 20 = .ok (.lload 6, 2) := by decide +kernel
theorem dX7_common_22 : decode cX7_common 22 = .ok (.lstore 4, 2) := by decide +kernel
theorem dX7_common_24 : decode cX7_common 24 = .ok (.lload 8, 2) := by decide +kernel
theorem dX7_common_26 : decode cX7_common 26 = .ok (.lstore 6, 2) := by decide +kernel
theorem dX7_common_28 : decode cX7_common 28 = .ok (.goto (-22), 3) := by decide +kernel
theorem dX7_common_31 : decode cX7_common 31 = .ok (.lload 4, 2) := by decide +kernel
theorem dX7_common_33 : decode cX7_common 33 = .ok (.lreturn, 1) := by decide +kernel
set_option maxRecDepth 20000 in
theorem ggX7_odds_X7_within : GoodIn wsX7_odds wsX7_within := goodIn_r _ [10] (by decide +kernel) (by decide +kernel)
set_option maxRecDepth 20000 in
theorem gX7_odds_X7_within : GoodIn wsX7_odds (va_wsS RX7 67 yX7_within wsX7_within) := goodIn_app (goodIn_of _ (by decide +kernel)) ggX7_odds_X7_within
set_option maxRecDepth 20000 in
theorem ggX7_odds_X7_findFromAgents : GoodIn wsX7_odds wsX7_findFromAgents := goodIn_r _ [14, 15, 16, 17, 18, 9, 19, 1, 20, 21, 22, 23, 7, 8, 10, 24, 25, 26, 27, 3, 28, 29, 30, 31, 32, 33, 34, 35, 36, 37, 38, 39, 40, 41, 42, 43, 44, 45, 46, 47, 48, 49, 50, 51, 52, 53, 54, 55, 56, 57, 58, 59, 60, 61, 62, 63, 64, 65, 66, 6, 67, 68, 69, 70, 71, 72, 73, 74, 75, 83, 84, 85, 86, 87, 88, 89, 90, 91, 92, 93, 94, 95, 96, 97, 98, 99, 100, 101, 102, 103, 104, 105] (by decide +kernel) (by decide +kernel)
set_option maxRecDepth 20000 in
theorem gX7_odds_X7_findFromAgents : GoodIn wsX7_odds (wsV RX7 158 RX7 yX7_findFromAgents wsX7_findFromAgents) := goodIn_app (goodIn_of _ (by decide +kernel)) ggX7_odds_X7_findFromAgents
set_option maxRecDepth 20000 in
theorem ggX7_odds_X7_meetsOnce : GoodIn wsX7_odds wsX7_meetsOnce := goodIn_r _ [79, 1, 28, 31, 15, 29, 30, 5, 4, 83, 84, 85, 86, 87, 88, 89, 90, 91, 92, 93, 94, 95, 96, 97, 98, 99, 100, 101, 102, 103, 104, 105] (by decide +kernel) (by decide +kernel)
set_option maxRecDepth 20000 in
theorem gX7_odds_X7_meetsOnce : GoodIn wsX7_odds (wsV RX7 179 RX7 yX7_meetsOnce wsX7_meetsOnce) := goodIn_app (goodIn_of _ (by decide +kernel)) ggX7_odds_X7_meetsOnce
set_option maxRecDepth 20000 in
theorem ggX7_odds_X7_common : GoodIn wsX7_odds wsX7_common := goodIn_r _ [82] (by decide +kernel) (by decide +kernel)
set_option maxRecDepth 20000 in
theorem gX7_odds_X7_common : GoodIn wsX7_odds (va_wsS RX7 182 yX7_common wsX7_common) := goodIn_app (goodIn_of _ (by decide +kernel)) ggX7_odds_X7_common
theorem dX7_odds_0 : decode cX7_odds 0 = .ok (.iload_n 1, 1) := by decide +kernel
theorem dX7_odds_1 : decode cX7_odds 1 = .ok (.iconst 0, 1) := by decide +kernel
theorem dX7_odds_2 : decode cX7_odds 2 = .ok (.bipush 12, 2) := by decide +kernel
theorem dX7_odds_4 : decode cX7_odds 4 = .ok (.invokestatic 67, 3) := by decide +kernel
theorem dX7_odds_7 : decode cX7_odds 7 = .ok (.ifCond .eq 19, 3) := by decide +kernel
theorem dX7_odds_10 : decode cX7_odds 10 = .ok (.iload_n 2, 1) := by decide +kernel
theorem dX7_odds_11 : decode cX7_odds 11 = .ok (.iconst 0, 1) := by decide +kernel
theorem dX7_odds_12 : decode cX7_odds 12 = .ok (.iconst 1, 1) := by decide +kernel
theorem dX7_odds_13 : decode cX7_odds 13 = .ok (.invokestatic 67, 3) := by decide +kernel
theorem dX7_odds_16 : decode cX7_odds 16 = .ok (.ifCond .eq 10, 3) := by decide +kernel
theorem dX7_odds_19 : decode cX7_odds 19 = .ok (.aload_n 0, 1) := by decide +kernel
theorem dX7_odds_20 : decode cX7_odds 20 = .ok (.getfield 90, 3) := by decide +kernel
theorem dX7_odds_23 : decode cX7_odds 23 = .ok (.ifCond .ne 7, 3) := by decide +kernel
theorem dX7_odds_26 : decode cX7_odds 26 = .ok (.ldc2_w 177, 3) := by decide +kernel
theorem dX7_odds_29 : decode cX7_odds 29 = .ok (.lreturn, 1) := by decide +kernel
theorem dX7_odds_30 : decode cX7_odds 30 = .ok (.aload_n 0, 1) := by decide +kernel
theorem dX7_odds_31 : decode cX7_odds 31 = .ok (.invokevirtual 158, 3) := by decide +kernel
theorem dX7_odds_34 : decode cX7_odds 34 = .ok (.iconst 0, 1) := by decide +kernel
theorem dX7_odds_35 : decode cX7_odds 35 = .ok (.istore_n 3, 1) := by decide +kernel
theorem dX7_odds_36 : decode cX7_odds 36 = .ok (.iload_n 3, 1) := by decide +kernel
theorem dX7_odds_37 : decode cX7_odds 37 = .ok (.aload_n 0, 1) := by decide +kernel
theorem dX7_odds_38 : decode cX7_odds 38 = .ok (.getfield 118, 3) := by decide +kernel
theorem dX7_odds_41 : decode cX7_odds 41 = .ok (.if_icmp .ge 24, 3) := by decide +kernel
theorem dX7_odds_44 : decode cX7_odds 44 = .ok (.aload_n 0, 1) := by decide +kernel
theorem dX7_odds_45 : decode cX7_odds 45 = .ok (.getfield 60, 3) := by decide +kernel
theorem dX7_odds_48 : decode cX7_odds 48 = .ok (.iload_n 3, 1) := by decide +kernel
theorem dX7_odds_49 : decode cX7_odds 49 = .ok (.iload_n 3, 1) := by decide +kernel
theorem dX7_odds_50 : decode cX7_odds 50 = .ok (.ifCond .ne 7, 3) := by decide +kernel
theorem dX7_odds_53 : decode cX7_odds 53 = .ok (.lconst 1, 1) := by decide +kernel
theorem dX7_odds_54 : decode cX7_odds 54 = .ok (.goto 4, 3) := by decide +kernel
theorem dX7_odds_57 : decode cX7_odds 57 = .ok (.lconst 0, 1) := by decide +kernel
theorem dX7_odds_58 : decode cX7_odds 58 = .ok (.lastore, 1) := by decide +kernel
theorem dX7_odds_59 : decode cX7_odds 59 = .ok (.iinc 3 1, 3) := by decide +kernel
theorem dX7_odds_62 : decode cX7_odds 62 = .ok (.goto (-26), 3) := by decide +kernel
theorem dX7_odds_65 : decode cX7_odds 65 = .ok (.lconst 1, 1) := by decide +kernel
theorem dX7_odds_66 : decode cX7_odds 66 = .ok (.lstore_n 3, 1) := by decide +kernel
theorem dX7_odds_67 : decode cX7_odds 67 = .ok (.iconst 0, 1) := by decide +kernel
theorem dX7_odds_68 : decode cX7_odds 68 = .ok (.istore 5, 2) := by decide +kernel
theorem dX7_odds_70 : decode cX7_odds 70 = .ok (.iload 5, 2) := by decide +kernel
theorem dX7_odds_72 : decode cX7_odds 72 = .ok (.iload_n 1, 1) := by decide +kernel
theorem dX7_odds_73 : decode cX7_odds 73 = .ok (.if_icmp .ge 106, 3) := by decide +kernel
theorem dX7_odds_76 : decode cX7_odds 76 = .ok (.iconst 0, 1) := by decide +kernel
theorem dX7_odds_77 : decode cX7_odds 77 = .ok (.istore 6, 2) := by decide +kernel
theorem dX7_odds_79 : decode cX7_odds 79 = .ok (.iload 6, 2) := by decide +kernel
theorem dX7_odds_81 : decode cX7_odds 81 = .ok (.aload_n 0, 1) := by decide +kernel
theorem dX7_odds_82 : decode cX7_odds 82 = .ok (.getfield 118, 3) := by decide +kernel
theorem dX7_odds_85 : decode cX7_odds 85 = .ok (.if_icmp .ge 17, 3) := by decide +kernel
theorem dX7_odds_88 : decode cX7_odds 88 = .ok (.aload_n 0, 1) := by decide +kernel
theorem dX7_odds_89 : decode cX7_odds 89 = .ok (.getfield 64, 3) := by decide +kernel
theorem dX7_odds_92 : decode cX7_odds 92 = .ok (.iload 6, 2) := by decide +kernel
theorem dX7_odds_94 : decode cX7_odds 94 = .ok (.lconst 0, 1) := by decide +kernel
theorem dX7_odds_95 : decode cX7_odds 95 = .ok (.lastore, 1) := by decide +kernel
theorem dX7_odds_96 : decode cX7_odds 96 = .ok (.iinc 6 1, 3) := by decide +kernel
theorem dX7_odds_99 : decode cX7_odds 99 = .ok (.goto (-20), 3) := by decide +kernel
theorem dX7_odds_102 : decode cX7_odds 102 = .ok (.iconst 0, 1) := by decide +kernel
theorem dX7_odds_103 : decode cX7_odds 103 = .ok (.istore 6, 2) := by decide +kernel
theorem dX7_odds_105 : decode cX7_odds 105 = .ok (.iload 6, 2) := by decide +kernel
theorem dX7_odds_107 : decode cX7_odds 107 = .ok (.aload_n 0, 1) := by decide +kernel
theorem dX7_odds_108 : decode cX7_odds 108 = .ok (.getfield 118, 3) := by decide +kernel
theorem dX7_odds_111 : decode cX7_odds 111 = .ok (.if_icmp .ge 15, 3) := by decide +kernel
theorem dX7_odds_114 : decode cX7_odds 114 = .ok (.aload_n 0, 1) := by decide +kernel
theorem dX7_odds_115 : decode cX7_odds 115 = .ok (.iload 6, 2) := by decide +kernel
theorem dX7_odds_117 : decode cX7_odds 117 = .ok (.invokevirtual 179, 3) := by decide +kernel
theorem dX7_odds_120 : decode cX7_odds 120 = .ok (.iinc 6 1, 3) := by decide +kernel
theorem dX7_odds_123 : decode cX7_odds 123 = .ok (.goto (-18), 3) := by decide +kernel
theorem dX7_odds_126 : decode cX7_odds 126 = .ok (.iconst 0, 1) := by decide +kernel
theorem dX7_odds_127 : decode cX7_odds 127 = .ok (.istore 6, 2) := by decide +kernel
theorem dX7_odds_129 : decode cX7_odds 129 = .ok (.iload 6, 2) := by decide +kernel
theorem dX7_odds_131 : decode cX7_odds 131 = .ok (.aload_n 0, 1) := by decide +kernel
theorem dX7_odds_132 : decode cX7_odds 132 = .ok (.getfield 118, 3) := by decide +kernel
theorem dX7_odds_135 : decode cX7_odds 135 = .ok (.if_icmp .ge 23, 3) := by decide +kernel
theorem dX7_odds_138 : decode cX7_odds 138 = .ok (.aload_n 0, 1) := by decide +kernel
theorem dX7_odds_139 : decode cX7_odds 139 = .ok (.getfield 60, 3) := by decide +kernel
theorem dX7_odds_142 : decode cX7_odds 142 = .ok (.iload 6, 2) := by decide +kernel
theorem dX7_odds_144 : decode cX7_odds 144 = .ok (.aload_n 0, 1) := by decide +kernel
theorem dX7_odds_145 : decode cX7_odds 145 = .ok (.getfield 64, 3) := by decide +kernel
theorem dX7_odds_148 : decode cX7_odds 148 = .ok (.iload 6, 2) := by decide +kernel
theorem dX7_odds_150 : decode cX7_odds 150 = .ok (.laload, 1) := by decide +kernel
theorem dX7_odds_151 : decode cX7_odds 151 = .ok (.lastore, 1) := by decide +kernel
theorem dX7_odds_152 : decode cX7_odds 152 = .ok (.iinc 6 1, 3) := by decide +kernel
theorem dX7_odds_155 : decode cX7_odds 155 = .ok (.goto (-26), 3) := by decide +kernel
theorem dX7_odds_158 : decode cX7_odds 158 = .ok (.lload_n 3, 1) := by decide +kernel
theorem dX7_odds_159 : decode cX7_odds 159 = .ok (.aload_n 0, 1) := by decide +kernel
theorem dX7_odds_160 : decode cX7_odds 160 = .ok (.getfield 90, 3) := by decide +kernel
theorem dX7_odds_163 : decode cX7_odds 163 = .ok (.aload_n 0, 1) := by decide +kernel
theorem dX7_odds_164 : decode cX7_odds 164 = .ok (.getfield 90, 3) := by decide +kernel
theorem dX7_odds_167 : decode cX7_odds 167 = .ok (.iconst 1, 1) := by decide +kernel
theorem dX7_odds_168 : decode cX7_odds 168 = .ok (.isub, 1) := by decide +kernel
theorem dX7_odds_169 : decode cX7_odds 169 = .ok (.imul, 1) := by decide +kernel
theorem dX7_odds_170 : decode cX7_odds 170 = .ok (.i2l, 1) := by decide +kernel
theorem dX7_odds_171 : decode cX7_odds 171 = .ok (.lmul, 1) := by decide +kernel
theorem dX7_odds_172 : decode cX7_odds 172 = .ok (.lstore_n 3, 1) := by decide +kernel
theorem dX7_odds_173 : decode cX7_odds 173 = .ok (.iinc 5 1, 3) := by decide +kernel
theorem dX7_odds_176 : decode cX7_odds 176 = .ok (.goto (-106), 3) := by decide +kernel
theorem dX7_odds_179 : decode cX7_odds 179 = .ok (.lconst 0, 1) := by decide +kernel
theorem dX7_odds_180 : decode cX7_odds 180 = .ok (.lstore 5, 2) := by decide +kernel
theorem dX7_odds_182 : decode cX7_odds 182 = .ok (.iconst 0, 1) := by decide +kernel
theorem dX7_odds_183 : decode cX7_odds 183 = .ok (.istore 7, 2) := by decide +kernel
theorem dX7_odds_185 : decode cX7_odds 185 = .ok (.iload 7, 2) := by decide +kernel
theorem dX7_odds_187 : decode cX7_odds 187 = .ok (.aload_n 0, 1) := by decide +kernel
theorem dX7_odds_188 : decode cX7_odds 188 = .ok (.getfield 118, 3) := by decide +kernel
theorem dX7_odds_191 : decode cX7_odds 191 = .ok (.if_icmp .ge 37, 3) := by decide +kernel
theorem dX7_odds_194 : decode cX7_odds 194 = .ok (.lload 5, 2) := by decide +kernel
theorem dX7_odds_196 : decode cX7_odds 196 = .ok (.aload_n 0, 1) := by decide +kernel
theorem dX7_odds_197 : decode cX7_odds 197 = .ok (.getfield 50, 3) := by decide +kernel
theorem dX7_odds_200 : decode cX7_odds 200 = .ok (.iload 7, 2) := by decide +kernel
theorem dX7_odds_202 : decode cX7_odds 202 = .ok (.iaload, 1) := by decide +kernel
theorem dX7_odds_203 : decode cX7_odds 203 = .ok (.bipush (-9), 2) := by decide +kernel
theorem dX7_odds_205 : decode cX7_odds 205 = .ok (.if_icmp .eq 13, 3) := by decide +kernel
theorem dX7_odds_208 : decode cX7_odds 208 = .ok (.aload_n 0, 1) := by decide +kernel
theorem dX7_odds_209 : decode cX7_odds 209 = .ok (.getfield 60, 3) := by decide +kernel
theorem dX7_odds_212 : decode cX7_odds 212 = .ok (.iload 7, 2) := by decide +kernel
theorem dX7_odds_214 : decode cX7_odds 214 = .ok (.laload, 1) := by decide +kernel
theorem dX7_odds_215 : decode cX7_odds 215 = .ok (.goto 4, 3) := by decide +kernel
theorem dX7_odds_218 : decode cX7_odds 218 = .ok (.lconst 0, 1) := by decide +kernel
theorem dX7_odds_219 : decode cX7_odds 219 = .ok (.ladd, 1) := by decide +kernel
theorem dX7_odds_220 : decode cX7_odds 220 = .ok (.lstore 5, 2) := by decide +kernel
theorem dX7_odds_222 : decode cX7_odds 222 = .ok (.iinc 7 1, 3) := by decide +kernel
theorem dX7_odds_225 : decode cX7_odds 225 = .ok (.goto (-40), 3) := by decide +kernel
theorem dX7_odds_228 : decode cX7_odds 228 = .ok (.iload_n 2, 1) := by decide +kernel
theorem dX7_odds_229 : decode cX7_odds 229 = .ok (.ifCond .ne 8, 3) := by decide +kernel
theorem dX7_odds_232 : decode cX7_odds 232 = .ok (.lload 5, 2) := by decide +kernel
theorem dX7_odds_234 : decode cX7_odds 234 = .ok (.goto 4, 3) := by decide +kernel
theorem dX7_odds_237 : decode cX7_odds 237 = .ok (.lload_n 3, 1) := by decide +kernel
theorem dX7_odds_238 : decode cX7_odds 238 = .ok (.lload 5, 2) := by decide +kernel
theorem dX7_odds_240 : decode cX7_odds 240 = .ok (.lload_n 3, 1) := by decide +kernel
theorem dX7_odds_241 : decode cX7_odds 241 = .ok (.invokestatic 182, 3) := by decide +kernel
theorem dX7_odds_244 : decode cX7_odds 244 = .ok (.ldiv, 1) := by decide +kernel
theorem dX7_odds_245 : decode cX7_odds 245 = .ok (.lreturn, 1) := by decide +kernel
set_option maxRecDepth 20000 in
theorem ggX7_weight_X7_isState : GoodIn wsX7_weight wsX7_isState := goodIn_r _ [5, 6, 7, 4, 8] (by decide +kernel) (by decide +kernel)
set_option maxRecDepth 20000 in
theorem gX7_weight_X7_isState : GoodIn wsX7_weight (va_wsS RX7 82 yX7_isState wsX7_isState) := goodIn_app (goodIn_of _ (by decide +kernel)) ggX7_weight_X7_isState
set_option maxRecDepth 20000 in
theorem ggX7_weight_X7_within : GoodIn wsX7_weight wsX7_within := goodIn_r _ [8] (by decide +kernel) (by decide +kernel)
set_option maxRecDepth 20000 in
theorem gX7_weight_X7_within : GoodIn wsX7_weight (va_wsS RX7 67 yX7_within wsX7_within) := goodIn_app (goodIn_of _ (by decide +kernel)) ggX7_weight_X7_within
theorem dX7_weight_0 : decode cX7_weight 0 = .ok (.iload_n 1, 1) := by decide +kernel
theorem dX7_weight_1 : decode cX7_weight 1 = .ok (.invokestatic 82, 3) := by decide +kernel
theorem dX7_weight_4 : decode cX7_weight 4 = .ok (.ifCond .ne 5, 3) := by decide +kernel
theorem dX7_weight_7 : decode cX7_weight 7 = .ok (.iconst (-1), 1) := by decide +kernel
theorem dX7_weight_8 : decode cX7_weight 8 = .ok (.ireturn, 1) := by decide +kernel
theorem dX7_weight_9 : decode cX7_weight 9 = .ok (.iload_n 2, 1) := by decide +kernel
theorem dX7_weight_10 : decode cX7_weight 10 = .ok (.bipush (-9), 2) := by decide +kernel
theorem dX7_weight_12 : decode cX7_weight 12 = .ok (.bipush 9, 2) := by decide +kernel
theorem dX7_weight_14 : decode cX7_weight 14 = .ok (.invokestatic 67, 3) := by decide +kernel
theorem dX7_weight_17 : decode cX7_weight 17 = .ok (.ifCond .ne 6, 3) := by decide +kernel
theorem dX7_weight_20 : decode cX7_weight 20 = .ok (.bipush (-2), 2) := by decide +kernel
theorem dX7_weight_22 : decode cX7_weight 22 = .ok (.ireturn, 1) := by decide +kernel
theorem dX7_weight_23 : decode cX7_weight 23 = .ok (.aload_n 0, 1) := by decide +kernel
theorem dX7_weight_24 : decode cX7_weight 24 = .ok (.getfield 25, 3) := by decide +kernel
theorem dX7_weight_27 : decode cX7_weight 27 = .ok (.iload_n 1, 1) := by decide +kernel
theorem dX7_weight_28 : decode cX7_weight 28 = .ok (.iaload, 1) := by decide +kernel
theorem dX7_weight_29 : decode cX7_weight 29 = .ok (.istore_n 3, 1) := by decide +kernel
theorem dX7_weight_30 : decode cX7_weight 30 = .ok (.aload_n 0, 1) := by decide +kernel
theorem dX7_weight_31 : decode cX7_weight 31 = .ok (.getfield 25, 3) := by decide +kernel
theorem dX7_weight_34 : decode cX7_weight 34 = .ok (.iload_n 1, 1) := by decide +kernel
theorem dX7_weight_35 : decode cX7_weight 35 = .ok (.iload_n 2, 1) := by decide +kernel
theorem dX7_weight_36 : decode cX7_weight 36 = .ok (.iastore, 1) := by decide +kernel
theorem dX7_weight_37 : decode cX7_weight 37 = .ok (.iload_n 3, 1) := by decide +kernel
theorem dX7_weight_38 : decode cX7_weight 38 = .ok (.bipush 10, 2) := by decide +kernel
theorem dX7_weight_40 : decode cX7_weight 40 = .ok (.iadd, 1) := by decide +kernel
theorem dX7_weight_41 : decode cX7_weight 41 = .ok (.ireturn, 1) := by decide +kernel
theorem dX7_sum_0 : decode cX7_sum 0 = .ok (.aload_n 0, 1) := by decide +kernel
theorem dX7_sum_1 : decode cX7_sum 1 = .ok (.getfield 90, 3) := by decide +kernel
theorem dX7_sum_4 : decode cX7_sum 4 = .ok (.ifCond .ne 6, 3) := by decide +kernel
theorem dX7_sum_7 : decode cX7_sum 7 = .ok (.bipush (-3), 2) := by decide +kernel
theorem dX7_sum_9 : decode cX7_sum 9 = .ok (.ireturn, 1) := by decide +kernel
theorem dX7_sum_10 : decode cX7_sum 10 = .ok (.sipush 1000, 3) := by decide +kernel
theorem dX7_sum_13 : decode cX7_sum 13 = .ok (.istore_n 1, 1) := by decide +kernel
theorem dX7_sum_14 : decode cX7_sum 14 = .ok (.iconst 0, 1) := by decide +kernel
theorem dX7_sum_15 : decode cX7_sum 15 = .ok (.istore_n 2, 1) := by decide +kernel
theorem dX7_sum_16 : decode cX7_sum 16 = .ok (.iload_n 2, 1) := by decide +kernel
theorem dX7_sum_17 : decode cX7_sum 17 = .ok (.aload_n 0, 1) := by decide +kernel
theorem dX7_sum_18 : decode cX7_sum 18 = .ok (.getfield 90, 3) := by decide +kernel
theorem dX7_sum_21 : decode cX7_sum 21 = .ok (.if_icmp .ge 23, 3) := by decide +kernel
theorem dX7_sum_24 : decode cX7_sum 24 = .ok (.iload_n 1, 1) := by decide +kernel
theorem dX7_sum_25 : decode cX7_sum 25 = .ok (.aload_n 0, 1) := by decide +kernel
theorem dX7_sum_26 : decode cX7_sum 26 = .ok (.getfield 25, 3) := by decide +kernel
theorem dX7_sum_29 : decode cX7_sum 29 = .ok (.aload_n 0, 1) := by decide +kernel
theorem dX7_sum_30 : decode cX7_sum 30 = .ok (.getfield 28, 3) := by decide +kernel
theorem dX7_sum_33 : decode cX7_sum 33 = .ok (.iload_n 2, 1) := by decide +kernel
theorem dX7_sum_34 : decode cX7_sum 34 = .ok (.iaload, 1) := by decide +kernel
theorem dX7_sum_35 : decode cX7_sum 35 = .ok (.iaload, 1) := by decide +kernel
theorem dX7_sum_36 : decode cX7_sum 36 = .ok (.iadd, 1) := by decide +kernel
theorem dX7_sum_37 : decode cX7_sum 37 = .ok (.istore_n 1, 1) := by decide +kernel
theorem dX7_sum_38 : decode cX7_sum 38 = .ok (.iinc 2 1, 3) := by decide +kernel
theorem dX7_sum_41 : decode cX7_sum 41 = .ok (.goto (-25), 3) := by decide +kernel
theorem dX7_sum_44 : decode cX7_sum 44 = .ok (.iload_n 1, 1) := by decide +kernel
theorem dX7_sum_45 : decode cX7_sum 45 = .ok (.ireturn, 1) := by decide +kernel
theorem dX7_breaks_0 : decode cX7_breaks 0 = .ok (.iconst 0, 1) := by decide +kernel
theorem dX7_breaks_1 : decode cX7_breaks 1 = .ok (.istore_n 1, 1) := by decide +kernel
theorem dX7_breaks_2 : decode cX7_breaks 2 = .ok (.iload_n 1, 1) := by decide +kernel
theorem dX7_breaks_3 : decode cX7_breaks 3 = .ok (.aload_n 0, 1) := by decide +kernel
theorem dX7_breaks_4 : decode cX7_breaks 4 = .ok (.getfield 71, 3) := by decide +kernel
theorem dX7_breaks_7 : decode cX7_breaks 7 = .ok (.if_icmp .ge 60, 3) := by decide +kernel
theorem dX7_breaks_10 : decode cX7_breaks 10 = .ok (.aload_n 0, 1) := by decide +kernel
theorem dX7_breaks_11 : decode cX7_breaks 11 = .ok (.getfield 25, 3) := by decide +kernel
theorem dX7_breaks_14 : decode cX7_breaks 14 = .ok (.aload_n 0, 1) := by decide +kernel
theorem dX7_breaks_15 : decode cX7_breaks 15 = .ok (.getfield 7, 3) := by decide +kernel
theorem dX7_breaks_18 : decode cX7_breaks 18 = .ok (.iload_n 1, 1) := by decide +kernel
theorem dX7_breaks_19 : decode cX7_breaks 19 = .ok (.iaload, 1) := by decide +kernel
theorem dX7_breaks_20 : decode cX7_breaks 20 = .ok (.iaload, 1) := by decide +kernel
theorem dX7_breaks_21 : decode cX7_breaks 21 = .ok (.aload_n 0, 1) := by decide +kernel
theorem dX7_breaks_22 : decode cX7_breaks 22 = .ok (.getfield 25, 3) := by decide +kernel
theorem dX7_breaks_25 : decode cX7_breaks 25 = .ok (.aload_n 0, 1) := by decide +kernel
theorem dX7_breaks_26 : decode cX7_breaks 26 = .ok (.getfield 13, 3) := by decide +kernel
theorem dX7_breaks_29 : decode cX7_breaks 29 = .ok (.iload_n 1, 1) := by decide +kernel
theorem dX7_breaks_30 : decode cX7_breaks 30 = .ok (.iaload, 1) := by decide +kernel
theorem dX7_breaks_31 : decode cX7_breaks 31 = .ok (.iaload, 1) := by decide +kernel
theorem dX7_breaks_32 : decode cX7_breaks 32 = .ok (.iadd, 1) := by decide +kernel
theorem dX7_breaks_33 : decode cX7_breaks 33 = .ok (.aload_n 0, 1) := by decide +kernel
theorem dX7_breaks_34 : decode cX7_breaks 34 = .ok (.getfield 25, 3) := by decide +kernel
theorem dX7_breaks_37 : decode cX7_breaks 37 = .ok (.aload_n 0, 1) := by decide +kernel
theorem dX7_breaks_38 : decode cX7_breaks 38 = .ok (.getfield 16, 3) := by decide +kernel
theorem dX7_breaks_41 : decode cX7_breaks 41 = .ok (.iload_n 1, 1) := by decide +kernel
theorem dX7_breaks_42 : decode cX7_breaks 42 = .ok (.iaload, 1) := by decide +kernel
theorem dX7_breaks_43 : decode cX7_breaks 43 = .ok (.iaload, 1) := by decide +kernel
theorem dX7_breaks_44 : decode cX7_breaks 44 = .ok (.aload_n 0, 1) := by decide +kernel
theorem dX7_breaks_45 : decode cX7_breaks 45 = .ok (.getfield 25, 3) := by decide +kernel
theorem dX7_breaks_48 : decode cX7_breaks 48 = .ok (.aload_n 0, 1) := by decide +kernel
theorem dX7_breaks_49 : decode cX7_breaks 49 = .ok (.getfield 19, 3) := by decide +kernel
theorem dX7_breaks_52 : decode cX7_breaks 52 = .ok (.iload_n 1, 1) := by decide +kernel
theorem dX7_breaks_53 : decode cX7_breaks 53 = .ok (.iaload, 1) := by decide +kernel
theorem dX7_breaks_54 : decode cX7_breaks 54 = .ok (.iaload, 1) := by decide +kernel
theorem dX7_breaks_55 : decode cX7_breaks 55 = .ok (.iadd, 1) := by decide +kernel
theorem dX7_breaks_56 : decode cX7_breaks 56 = .ok (.if_icmp .eq 5, 3) := by decide +kernel
theorem dX7_breaks_59 : decode cX7_breaks 59 = .ok (.iload_n 1, 1) := by decide +kernel
theorem dX7_breaks_60 : decode cX7_breaks 60 = .ok (.ireturn, 1) := by decide +kernel
theorem dX7_breaks_61 : decode cX7_breaks 61 = .ok (.iinc 1 1, 3) := by decide +kernel
theorem dX7_breaks_64 : decode cX7_breaks 64 = .ok (.goto (-62), 3) := by decide +kernel
theorem dX7_breaks_67 : decode cX7_breaks 67 = .ok (.bipush (-9), 2) := by decide +kernel
theorem dX7_breaks_69 : decode cX7_breaks 69 = .ok (.ireturn, 1) := by decide +kernel
theorem dX7_weightBy_0 : decode cX7_weightBy 0 = .ok (.iload_n 0, 1) := by decide +kernel
theorem dX7_weightBy_1 : decode cX7_weightBy 1 = .ok (.istore_n 2, 1) := by decide +kernel
theorem dX7_weightBy_2 : decode cX7_weightBy 2 = .ok (.iconst 0, 1) := by decide +kernel
theorem dX7_weightBy_3 : decode cX7_weightBy 3 = .ok (.istore_n 3, 1) := by decide +kernel
theorem dX7_weightBy_4 : decode cX7_weightBy 4 = .ok (.iload_n 3, 1) := by decide +kernel
theorem dX7_weightBy_5 : decode cX7_weightBy 5 = .ok (.iload_n 1, 1) := by decide +kernel
theorem dX7_weightBy_6 : decode cX7_weightBy 6 = .ok (.if_icmp .ge 13, 3) := by decide +kernel
theorem dX7_weightBy_9 : decode cX7_weightBy 9 = .ok (.iload_n 2, 1) := by decide +kernel
theorem dX7_weightBy_10 : decode cX7_weightBy 10 = .ok (.iconst 5, 1) := by decide +kernel
theorem dX7_weightBy_11 : decode cX7_weightBy 11 = .ok (.idiv, 1) := by decide +kernel
theorem dX7_weightBy_12 : decode cX7_weightBy 12 = .ok (.istore_n 2, 1) := by decide +kernel
theorem dX7_weightBy_13 : decode cX7_weightBy 13 = .ok (.iinc 3 1, 3) := by decide +kernel
theorem dX7_weightBy_16 : decode cX7_weightBy 16 = .ok (.goto (-12), 3) := by decide +kernel
theorem dX7_weightBy_19 : decode cX7_weightBy 19 = .ok (.iload_n 2, 1) := by decide +kernel
theorem dX7_weightBy_20 : decode cX7_weightBy 20 = .ok (.iconst 5, 1) := by decide +kernel
theorem dX7_weightBy_21 : decode cX7_weightBy 21 = .ok (.irem, 1) := by decide +kernel
theorem dX7_weightBy_22 : decode cX7_weightBy 22 = .ok (.iconst 2, 1) := by decide +kernel
theorem dX7_weightBy_23 : decode cX7_weightBy 23 = .ok (.isub, 1) := by decide +kernel
theorem dX7_weightBy_24 : decode cX7_weightBy 24 = .ok (.ireturn, 1) := by decide +kernel
set_option maxRecDepth 20000 in
theorem ggX7_doKeep_X7_weightBy : GoodIn wsX7_doKeep wsX7_weightBy := goodIn_r _ [9] (by decide +kernel) (by decide +kernel)
set_option maxRecDepth 20000 in
theorem gX7_doKeep_X7_weightBy : GoodIn wsX7_doKeep (va_wsS RX7 186 yX7_weightBy wsX7_weightBy) := goodIn_app (goodIn_of _ (by decide +kernel)) ggX7_doKeep_X7_weightBy
theorem dX7_doKeep_0 : decode cX7_doKeep 0 = .ok (.iconst 1, 1) := by decide +kernel
theorem dX7_doKeep_1 : decode cX7_doKeep 1 = .ok (.istore_n 2, 1) := by decide +kernel
theorem dX7_doKeep_2 : decode cX7_doKeep 2 = .ok (.iconst 0, 1) := by decide +kernel
theorem dX7_doKeep_3 : decode cX7_doKeep 3 = .ok (.istore_n 3, 1) := by decide +kernel
theorem dX7_doKeep_4 : decode cX7_doKeep 4 = .ok (.iload_n 3, 1) := by decide +kernel
theorem dX7_doKeep_5 : decode cX7_doKeep 5 = .ok (.aload_n 0, 1) := by decide +kernel
theorem dX7_doKeep_6 : decode cX7_doKeep 6 = .ok (.getfield 71, 3) := by decide +kernel
theorem dX7_doKeep_9 : decode cX7_doKeep 9 = .ok (.if_icmp .ge 64, 3) := by decide +kernel
theorem dX7_doKeep_12 : decode cX7_doKeep 12 = .ok (.iload_n 2, 1) := by decide +kernel
theorem dX7_doKeep_13 : decode cX7_doKeep 13 = .ok (.ifCond .eq 60, 3) := by decide +kernel
theorem dX7_doKeep_16 : decode cX7_doKeep 16 = .ok (.iload_n 1, 1) := by decide +kernel
theorem dX7_doKeep_17 : decode cX7_doKeep 17 = .ok (.aload_n 0, 1) := by decide +kernel
theorem dX7_doKeep_18 : decode cX7_doKeep 18 = .ok (.getfield 7, 3) := by decide +kernel
theorem dX7_doKeep_21 : decode cX7_doKeep 21 = .ok (.iload_n 3, 1) := by decide +kernel
theorem dX7_doKeep_22 : decode cX7_doKeep 22 = .ok (.iaload, 1) := by decide +kernel
theorem dX7_doKeep_23 : decode cX7_doKeep 23 = .ok (.invokestatic 186, 3) := by decide +kernel
theorem dX7_doKeep_26 : decode cX7_doKeep 26 = .ok (.iload_n 1, 1) := by decide +kernel
theorem dX7_doKeep_27 : decode cX7_doKeep 27 = .ok (.aload_n 0, 1) := by decide +kernel
theorem dX7_doKeep_28 : decode cX7_doKeep 28 = .ok (.getfield 13, 3) := by decide +kernel
theorem dX7_doKeep_31 : decode cX7_doKeep 31 = .ok (.iload_n 3, 1) := by decide +kernel
theorem dX7_doKeep_32 : decode cX7_doKeep 32 = .ok (.iaload, 1) := by decide +kernel
theorem dX7_doKeep_33 : decode cX7_doKeep 33 = .ok (.invokestatic 186, 3) := by decide +kernel
theorem dX7_doKeep_36 : decode cX7_doKeep 36 = .ok (.iadd, 1) := by decide +kernel
theorem dX7_doKeep_37 : decode cX7_doKeep 37 = .ok (.iload_n 1, 1) := by decide +kernel
theorem dX7_doKeep_38 : decode cX7_doKeep 38 = .ok (.aload_n 0, 1) := by decide +kernel
theorem dX7_doKeep_39 : decode cX7_doKeep 39 = .ok (.getfield 16, 3) := by decide +kernel
theorem dX7_doKeep_42 : decode cX7_doKeep 42 = .ok (.iload_n 3, 1) := by decide +kernel
theorem dX7_doKeep_43 : decode cX7_doKeep 43 = .ok (.iaload, 1) := by decide +kernel
theorem dX7_doKeep_44 : decode cX7_doKeep 44 = .ok (.invokestatic 186, 3) := by decide +kernel
theorem dX7_doKeep_47 : decode cX7_doKeep 47 = .ok (.iload_n 1, 1) := by decide +kernel
theorem dX7_doKeep_48 : decode cX7_doKeep 48 = .ok (.aload_n 0, 1) := by decide +kernel
theorem dX7_doKeep_49 : decode cX7_doKeep 49 = .ok (.getfield 19, 3) := by decide +kernel
theorem dX7_doKeep_52 : decode cX7_doKeep 52 = .ok (.iload_n 3, 1) := by decide +kernel
theorem dX7_doKeep_53 : decode cX7_doKeep 53 = .ok (.iaload, 1) := by decide +kernel
theorem dX7_doKeep_54 : decode cX7_doKeep 54 = .ok (.invokestatic 186, 3) := by decide +kernel
theorem dX7_doKeep_57 : decode cX7_doKeep 57 = .ok (.iadd, 1) := by decide +kernel
theorem dX7_doKeep_58 : decode cX7_doKeep 58 = .ok (.if_icmp .ne 7, 3) := by decide +kernel
theorem dX7_doKeep_61 : decode cX7_doKeep 61 = .ok (.iconst 1, 1) := by decide +kernel
theorem dX7_doKeep_62 : decode cX7_doKeep 62 = .ok (.goto 4, 3) := by decide +kernel
theorem dX7_doKeep_65 : decode cX7_doKeep 65 = .ok (.iconst 0, 1) := by decide +kernel
theorem dX7_doKeep_66 : decode cX7_doKeep 66 = .ok (.istore_n 2, 1) := by decide +kernel
theorem dX7_doKeep_67 : decode cX7_doKeep 67 = .ok (.iinc 3 1, 3) := by decide +kernel
theorem dX7_doKeep_70 : decode cX7_doKeep 70 = .ok (.goto (-66), 3) := by decide +kernel
theorem dX7_doKeep_73 : decode cX7_doKeep 73 = .ok (.iload_n 2, 1) := by decide +kernel
theorem dX7_doKeep_74 : decode cX7_doKeep 74 = .ok (.ireturn, 1) := by decide +kernel
set_option maxRecDepth 20000 in
theorem ggX7_keepers_X7_doKeep : GoodIn wsX7_keepers wsX7_doKeep := goodIn_r _ [5, 6, 7, 8, 9, 10, 11, 12, 4, 13, 14, 15, 16, 17, 18, 19, 20, 21, 22, 23, 24, 25, 26, 27, 28, 29, 30, 31, 32, 33, 34, 35, 36] (by decide +kernel) (by decide +kernel)
set_option maxRecDepth 20000 in
theorem gX7_keepers_X7_doKeep : GoodIn wsX7_keepers (wsV RX7 189 RX7 yX7_doKeep wsX7_doKeep) := goodIn_app (goodIn_of _ (by decide +kernel)) ggX7_keepers_X7_doKeep
theorem dX7_keepers_0 : decode cX7_keepers 0 = .ok (.iconst 0, 1) := by decide +kernel
theorem dX7_keepers_1 : decode cX7_keepers 1 = .ok (.istore_n 1, 1) := by decide +kernel
theorem dX7_keepers_2 : decode cX7_keepers 2 = .ok (.iconst 0, 1) := by decide +kernel
theorem dX7_keepers_3 : decode cX7_keepers 3 = .ok (.istore_n 2, 1) := by decide +kernel
theorem dX7_keepers_4 : decode cX7_keepers 4 = .ok (.iload_n 2, 1) := by decide +kernel
theorem dX7_keepers_5 : decode cX7_keepers 5 = .ok (.sipush 15625, 3) := by decide +kernel
theorem dX7_keepers_8 : decode cX7_keepers 8 = .ok (.if_icmp .ge 25, 3) := by decide +kernel
theorem dX7_keepers_11 : decode cX7_keepers 11 = .ok (.iload_n 1, 1) := by decide +kernel
theorem dX7_keepers_12 : decode cX7_keepers 12 = .ok (.aload_n 0, 1) := by decide +kernel
theorem dX7_keepers_13 : decode cX7_keepers 13 = .ok (.iload_n 2, 1) := by decide +kernel
theorem dX7_keepers_14 : decode cX7_keepers 14 = .ok (.invokevirtual 189, 3) := by decide +kernel
theorem dX7_keepers_17 : decode cX7_keepers 17 = .ok (.ifCond .eq 7, 3) := by decide +kernel
theorem dX7_keepers_20 : decode cX7_keepers 20 = .ok (.iconst 1, 1) := by decide +kernel
theorem dX7_keepers_21 : decode cX7_keepers 21 = .ok (.goto 4, 3) := by decide +kernel
theorem dX7_keepers_24 : decode cX7_keepers 24 = .ok (.iconst 0, 1) := by decide +kernel
theorem dX7_keepers_25 : decode cX7_keepers 25 = .ok (.iadd, 1) := by decide +kernel
theorem dX7_keepers_26 : decode cX7_keepers 26 = .ok (.istore_n 1, 1) := by decide +kernel
theorem dX7_keepers_27 : decode cX7_keepers 27 = .ok (.iinc 2 1, 3) := by decide +kernel
theorem dX7_keepers_30 : decode cX7_keepers 30 = .ok (.goto (-26), 3) := by decide +kernel
theorem dX7_keepers_33 : decode cX7_keepers 33 = .ok (.iload_n 1, 1) := by decide +kernel
theorem dX7_keepers_34 : decode cX7_keepers 34 = .ok (.ireturn, 1) := by decide +kernel
theorem dX7_truth_0 : decode cX7_truth 0 = .ok (.iload_n 2, 1) := by decide +kernel
theorem dX7_truth_1 : decode cX7_truth 1 = .ok (.ifCond .ne 27, 3) := by decide +kernel
theorem dX7_truth_4 : decode cX7_truth 4 = .ok (.iconst 2, 1) := by decide +kernel
theorem dX7_truth_5 : decode cX7_truth 5 = .ok (.iload_n 1, 1) := by decide +kernel
theorem dX7_truth_6 : decode cX7_truth 6 = .ok (.imul, 1) := by decide +kernel
theorem dX7_truth_7 : decode cX7_truth 7 = .ok (.iload_n 0, 1) := by decide +kernel
theorem dX7_truth_8 : decode cX7_truth 8 = .ok (.if_icmp .le 7, 3) := by decide +kernel
theorem dX7_truth_11 : decode cX7_truth 11 = .ok (.iconst 1, 1) := by decide +kernel
theorem dX7_truth_12 : decode cX7_truth 12 = .ok (.goto 15, 3) := by decide +kernel
theorem dX7_truth_15 : decode cX7_truth 15 = .ok (.iconst 2, 1) := by decide +kernel
theorem dX7_truth_16 : decode cX7_truth 16 = .ok (.iload_n 1, 1) := by decide +kernel
theorem dX7_truth_17 : decode cX7_truth 17 = .ok (.imul, 1) := by decide +kernel
theorem dX7_truth_18 : decode cX7_truth 18 = .ok (.iload_n 0, 1) := by decide +kernel
theorem dX7_truth_19 : decode cX7_truth 19 = .ok (.if_icmp .ge 7, 3) := by decide +kernel
theorem dX7_truth_22 : decode cX7_truth 22 = .ok (.iconst 0, 1) := by decide +kernel
theorem dX7_truth_23 : decode cX7_truth 23 = .ok (.goto 4, 3) := by decide +kernel
theorem dX7_truth_26 : decode cX7_truth 26 = .ok (.iconst 2, 1) := by decide +kernel
theorem dX7_truth_27 : decode cX7_truth 27 = .ok (.ireturn, 1) := by decide +kernel
theorem dX7_truth_28 : decode cX7_truth 28 = .ok (.iload_n 2, 1) := by decide +kernel
theorem dX7_truth_29 : decode cX7_truth 29 = .ok (.iconst 1, 1) := by decide +kernel
theorem dX7_truth_30 : decode cX7_truth 30 = .ok (.if_icmp .ne 16, 3) := by decide +kernel
theorem dX7_truth_33 : decode cX7_truth 33 = .ok (.iload_n 1, 1) := by decide +kernel
theorem dX7_truth_34 : decode cX7_truth 34 = .ok (.iload_n 3, 1) := by decide +kernel
theorem dX7_truth_35 : decode cX7_truth 35 = .ok (.if_icmp .lt 7, 3) := by decide +kernel
theorem dX7_truth_38 : decode cX7_truth 38 = .ok (.iconst 1, 1) := by decide +kernel
theorem dX7_truth_39 : decode cX7_truth 39 = .ok (.goto 18, 3) := by decide +kernel
theorem dX7_truth_42 : decode cX7_truth 42 = .ok (.iconst 0, 1) := by decide +kernel
theorem dX7_truth_43 : decode cX7_truth 43 = .ok (.goto 14, 3) := by decide +kernel
theorem dX7_truth_46 : decode cX7_truth 46 = .ok (.iload_n 1, 1) := by decide +kernel
theorem dX7_truth_47 : decode cX7_truth 47 = .ok (.iload_n 3, 1) := by decide +kernel
theorem dX7_truth_48 : decode cX7_truth 48 = .ok (.irem, 1) := by decide +kernel
theorem dX7_truth_49 : decode cX7_truth 49 = .ok (.ifCond .ne 7, 3) := by decide +kernel
theorem dX7_truth_52 : decode cX7_truth 52 = .ok (.iconst 1, 1) := by decide +kernel
theorem dX7_truth_53 : decode cX7_truth 53 = .ok (.goto 4, 3) := by decide +kernel
theorem dX7_truth_56 : decode cX7_truth 56 = .ok (.iconst 0, 1) := by decide +kernel
theorem dX7_truth_57 : decode cX7_truth 57 = .ok (.ireturn, 1) := by decide +kernel
set_option maxRecDepth 20000 in
theorem ggX7_wrong_X7_within : GoodIn wsX7_wrong wsX7_within := goodIn_r _ [5] (by decide +kernel) (by decide +kernel)
set_option maxRecDepth 20000 in
theorem gX7_wrong_X7_within : GoodIn wsX7_wrong (va_wsS RX7 67 yX7_within wsX7_within) := goodIn_app (goodIn_of _ (by decide +kernel)) ggX7_wrong_X7_within
set_option maxRecDepth 20000 in
theorem ggX7_wrong_X7_findReached : GoodIn wsX7_wrong wsX7_findReached := goodIn_r _ [9, 10, 11, 12, 13, 14, 15, 16, 17, 4, 18, 19, 20, 21, 22, 23, 24, 1, 25, 26, 27, 28, 29, 30, 31, 32, 33, 34, 35, 36, 37, 38, 39, 40, 41, 42, 43, 44, 45, 46, 47, 48, 49, 50, 51, 52, 53, 54, 55, 56, 57, 58, 59, 76, 77, 78, 79, 80, 81, 82, 83, 84, 85, 86, 87, 88, 89, 90, 91, 92, 93, 94, 95, 96, 97, 98] (by decide +kernel) (by decide +kernel)
set_option maxRecDepth 20000 in
theorem gX7_wrong_X7_findReached : GoodIn wsX7_wrong (wsV RX7 155 RX7 yX7_findReached wsX7_findReached) := goodIn_app (goodIn_of _ (by decide +kernel)) ggX7_wrong_X7_findReached
set_option maxRecDepth 20000 in
theorem ggX7_wrong_X7_whatIsDecided : GoodIn wsX7_wrong wsX7_whatIsDecided := goodIn_r _ [63, 64, 65, 66, 4, 67, 10, 68, 50, 69, 70, 71, 72, 11, 14, 76, 77, 78, 79, 80, 81, 82, 83, 84, 85, 86, 87, 88, 89, 90, 91, 92, 93, 94, 95, 96, 97, 98] (by decide +kernel) (by decide +kernel)
set_option maxRecDepth 20000 in
theorem gX7_wrong_X7_whatIsDecided : GoodIn wsX7_wrong (wsV RX7 170 RX7 yX7_whatIsDecided wsX7_whatIsDecided) := goodIn_app (goodIn_of _ (by decide +kernel)) ggX7_wrong_X7_whatIsDecided
set_option maxRecDepth 20000 in
theorem ggX7_wrong_X7_truth : GoodIn wsX7_wrong wsX7_truth := goodIn_r _ [75] (by decide +kernel) (by decide +kernel)
set_option maxRecDepth 20000 in
theorem gX7_wrong_X7_truth : GoodIn wsX7_wrong (va_wsS RX7 192 yX7_truth wsX7_truth) := goodIn_app (goodIn_of _ (by decide +kernel)) ggX7_wrong_X7_truth
theorem dX7_wrong_0 : decode cX7_wrong 0 = .ok (.iload_n 1, 1) := by decide +kernel
theorem dX7_wrong_1 : decode cX7_wrong 1 = .ok (.iconst 2, 1) := by decide +kernel
theorem dX7_wrong_2 : decode cX7_wrong 2 = .ok (.bipush 6, 2) := by decide +kernel
theorem dX7_wrong_4 : decode cX7_wrong 4 = .ok (.invokestatic 67, 3) := by decide +kernel
theorem dX7_wrong_7 : decode cX7_wrong 7 = .ok (.ifCond .eq 22, 3) := by decide +kernel
theorem dX7_wrong_10 : decode cX7_wrong 10 = .ok (.iload_n 2, 1) := by decide +kernel
theorem dX7_wrong_11 : decode cX7_wrong 11 = .ok (.iconst 0, 1) := by decide +kernel
theorem dX7_wrong_12 : decode cX7_wrong 12 = .ok (.iconst 2, 1) := by decide +kernel
theorem dX7_wrong_13 : decode cX7_wrong 13 = .ok (.invokestatic 67, 3) := by decide +kernel
theorem dX7_wrong_16 : decode cX7_wrong 16 = .ok (.ifCond .eq 13, 3) := by decide +kernel
theorem dX7_wrong_19 : decode cX7_wrong 19 = .ok (.iload_n 3, 1) := by decide +kernel
theorem dX7_wrong_20 : decode cX7_wrong 20 = .ok (.iconst 1, 1) := by decide +kernel
theorem dX7_wrong_21 : decode cX7_wrong 21 = .ok (.bipush 6, 2) := by decide +kernel
theorem dX7_wrong_23 : decode cX7_wrong 23 = .ok (.invokestatic 67, 3) := by decide +kernel
theorem dX7_wrong_26 : decode cX7_wrong 26 = .ok (.ifCond .ne 6, 3) := by decide +kernel
theorem dX7_wrong_29 : decode cX7_wrong 29 = .ok (.bipush (-2), 2) := by decide +kernel
theorem dX7_wrong_31 : decode cX7_wrong 31 = .ok (.ireturn, 1) := by decide +kernel
theorem dX7_wrong_32 : decode cX7_wrong 32 = .ok (.iconst 0, 1) := by decide +kernel
theorem dX7_wrong_33 : decode cX7_wrong 33 = .ok (.istore 4, 2) := by decide +kernel
theorem dX7_wrong_35 : decode cX7_wrong 35 = .ok (.iload 4, 2) := by decide +kernel
theorem dX7_wrong_37 : decode cX7_wrong 37 = .ok (.iload_n 1, 1) := by decide +kernel
theorem dX7_wrong_38 : decode cX7_wrong 38 = .ok (.if_icmp .gt 78, 3) := by decide +kernel
theorem dX7_wrong_41 : decode cX7_wrong 41 = .ok (.iconst 0, 1) := by decide +kernel
theorem dX7_wrong_42 : decode cX7_wrong 42 = .ok (.istore 5, 2) := by decide +kernel
theorem dX7_wrong_44 : decode cX7_wrong 44 = .ok (.iload 5, 2) := by decide +kernel
theorem dX7_wrong_46 : decode cX7_wrong 46 = .ok (.bipush 6, 2) := by decide +kernel
theorem dX7_wrong_48 : decode cX7_wrong 48 = .ok (.if_icmp .ge 40, 3) := by decide +kernel
theorem dX7_wrong_51 : decode cX7_wrong 51 = .ok (.aload_n 0, 1) := by decide +kernel
theorem dX7_wrong_52 : decode cX7_wrong 52 = .ok (.getfield 38, 3) := by decide +kernel
theorem dX7_wrong_55 : decode cX7_wrong 55 = .ok (.iload 5, 2) := by decide +kernel
theorem dX7_wrong_57 : decode cX7_wrong 57 = .ok (.iload 5, 2) := by decide +kernel
theorem dX7_wrong_59 : decode cX7_wrong 59 = .ok (.ifCond .ne 10, 3) := by decide +kernel
theorem dX7_wrong_62 : decode cX7_wrong 62 = .ok (.iload_n 1, 1) := by decide +kernel
theorem dX7_wrong_63 : decode cX7_wrong 63 = .ok (.iload 4, 2) := by decide +kernel
theorem dX7_wrong_65 : decode cX7_wrong 65 = .ok (.isub, 1) := by decide +kernel
theorem dX7_wrong_66 : decode cX7_wrong 66 = .ok (.goto 15, 3) := by decide +kernel
theorem dX7_wrong_69 : decode cX7_wrong 69 = .ok (.iload 5, 2) := by decide +kernel
theorem dX7_wrong_71 : decode cX7_wrong 71 = .ok (.iconst 1, 1) := by decide +kernel
theorem dX7_wrong_72 : decode cX7_wrong 72 = .ok (.if_icmp .ne 8, 3) := by decide +kernel
theorem dX7_wrong_75 : decode cX7_wrong 75 = .ok (.iload 4, 2) := by decide +kernel
theorem dX7_wrong_77 : decode cX7_wrong 77 = .ok (.goto 4, 3) := by decide +kernel
theorem dX7_wrong_80 : decode cX7_wrong 80 = .ok (.iconst 0, 1) := by decide +kernel
theorem dX7_wrong_81 : decode cX7_wrong 81 = .ok (.iastore, 1) := by decide +kernel
theorem dX7_wrong_82 : decode cX7_wrong 82 = .ok (.iinc 5 1, 3) := by decide +kernel
theorem dX7_wrong_85 : decode cX7_wrong 85 = .ok (.goto (-41), 3) := by decide +kernel
theorem dX7_wrong_88 : decode cX7_wrong 88 = .ok (.aload_n 0, 1) := by decide +kernel
theorem dX7_wrong_89 : decode cX7_wrong 89 = .ok (.invokevirtual 155, 3) := by decide +kernel
theorem dX7_wrong_92 : decode cX7_wrong 92 = .ok (.aload_n 0, 1) := by decide +kernel
theorem dX7_wrong_93 : decode cX7_wrong 93 = .ok (.invokevirtual 170, 3) := by decide +kernel
theorem dX7_wrong_96 : decode cX7_wrong 96 = .ok (.iload_n 1, 1) := by decide +kernel
theorem dX7_wrong_97 : decode cX7_wrong 97 = .ok (.iload 4, 2) := by decide +kernel
theorem dX7_wrong_99 : decode cX7_wrong 99 = .ok (.iload_n 2, 1) := by decide +kernel
theorem dX7_wrong_100 : decode cX7_wrong 100 = .ok (.iload_n 3, 1) := by decide +kernel
theorem dX7_wrong_101 : decode cX7_wrong 101 = .ok (.invokestatic 192, 3) := by decide +kernel
theorem dX7_wrong_104 : decode cX7_wrong 104 = .ok (.if_icmp .eq 6, 3) := by decide +kernel
theorem dX7_wrong_107 : decode cX7_wrong 107 = .ok (.iload 4, 2) := by decide +kernel
theorem dX7_wrong_109 : decode cX7_wrong 109 = .ok (.ireturn, 1) := by decide +kernel
theorem dX7_wrong_110 : decode cX7_wrong 110 = .ok (.iinc 4 1, 3) := by decide +kernel
theorem dX7_wrong_113 : decode cX7_wrong 113 = .ok (.goto (-78), 3) := by decide +kernel
theorem dX7_wrong_116 : decode cX7_wrong 116 = .ok (.bipush (-9), 2) := by decide +kernel
theorem dX7_wrong_118 : decode cX7_wrong 118 = .ok (.ireturn, 1) := by decide +kernel
theorem dX7_many_0 : decode cX7_many 0 = .ok (.iload_n 1, 1) := by decide +kernel
theorem dX7_many_1 : decode cX7_many 1 = .ok (.tableswitch 51 0 3 #[31, 36, 41, 46], 31) := by decide +kernel
theorem dX7_many_32 : decode cX7_many 32 = .ok (.aload_n 0, 1) := by decide +kernel
theorem dX7_many_33 : decode cX7_many 33 = .ok (.getfield 71, 3) := by decide +kernel
theorem dX7_many_36 : decode cX7_many 36 = .ok (.ireturn, 1) := by decide +kernel
theorem dX7_many_37 : decode cX7_many 37 = .ok (.aload_n 0, 1) := by decide +kernel
theorem dX7_many_38 : decode cX7_many 38 = .ok (.getfield 90, 3) := by decide +kernel
theorem dX7_many_41 : decode cX7_many 41 = .ok (.ireturn, 1) := by decide +kernel
theorem dX7_many_42 : decode cX7_many 42 = .ok (.aload_n 0, 1) := by decide +kernel
theorem dX7_many_43 : decode cX7_many 43 = .ok (.getfield 101, 3) := by decide +kernel
theorem dX7_many_46 : decode cX7_many 46 = .ok (.ireturn, 1) := by decide +kernel
theorem dX7_many_47 : decode cX7_many 47 = .ok (.aload_n 0, 1) := by decide +kernel
theorem dX7_many_48 : decode cX7_many 48 = .ok (.getfield 104, 3) := by decide +kernel
theorem dX7_many_51 : decode cX7_many 51 = .ok (.ireturn, 1) := by decide +kernel
theorem dX7_many_52 : decode cX7_many 52 = .ok (.bipush (-2), 2) := by decide +kernel
theorem dX7_many_54 : decode cX7_many 54 = .ok (.ireturn, 1) := by decide +kernel
