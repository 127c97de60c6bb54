set_option maxRecDepth 20000 in
theorem ggX6_init_X4_init : GoodIn wsX6_init wsX4_init := goodIn_r _ [26, 27, 2, 3, 20, 28, 29, 30, 31, 32, 33, 60, 61, 62] (by decide +kernel) (by decide +kernel)
set_option maxRecDepth 20000 in
theorem gX6_init_X4_init : GoodIn wsX6_init (wsX4_init) := ggX6_init_X4_init
set_option maxRecDepth 20000 in
theorem ggX6_init_X2_init : GoodIn wsX6_init wsX2_init := goodIn_r _ [35, 36, 2, 3, 20, 37, 38, 39, 70, 71, 72, 73, 74, 75] (by decide +kernel) (by decide +kernel)
set_option maxRecDepth 20000 in
theorem gX6_init_X2_init_n20 : GoodIn wsX6_init (wsX2_init) := ggX6_init_X2_init
set_option maxRecDepth 20000 in
theorem ggX6_init_X3_init : GoodIn wsX6_init wsX3_init := goodIn_r _ [41, 42, 2, 3, 20, 43, 44, 45, 46, 47, 48, 49, 50, 51, 52, 53, 76, 77, 78, 79, 80, 81, 82, 83, 84, 85, 86, 87] (by decide +kernel) (by decide +kernel)
set_option maxRecDepth 20000 in
theorem gX6_init_X3_init_n27 : GoodIn wsX6_init (wsX3_init) := ggX6_init_X3_init
set_option maxRecDepth 20000 in
theorem ggX6_init_X0_init : GoodIn wsX6_init wsX0_init := goodIn_r _ [55, 56, 2, 3, 57, 58, 59, 88, 89] (by decide +kernel) (by decide +kernel)
set_option maxRecDepth 20000 in
theorem gX6_init_X0_init_n34 : GoodIn wsX6_init (wsX0_init) := ggX6_init_X0_init
theorem dX6_init_0 : decode cX6_init 0 = .ok (.aload_n 0, 1) := by decide +kernel
theorem dX6_init_1 : decode cX6_init 1 = .ok (.invokespecial 3, 3) := by decide +kernel
theorem dX6_init_4 : decode cX6_init 4 = .ok (.aload_n 0, 1) := by decide +kernel
theorem dX6_init_5 : decode cX6_init 5 = .ok (.new 9, 3) := by decide +kernel
theorem dX6_init_8 : decode cX6_init 8 = .ok (.dup, 1) := by decide +kernel
theorem dX6_init_9 : decode cX6_init 9 = .ok (.invokespecial 11, 3) := by decide +kernel
theorem dX6_init_12 : decode cX6_init 12 = .ok (.putfield 12, 3) := by decide +kernel
theorem dX6_init_15 : decode cX6_init 15 = .ok (.aload_n 0, 1) := by decide +kernel
theorem dX6_init_16 : decode cX6_init 16 = .ok (.new 18, 3) := by decide +kernel
theorem dX6_init_19 : decode cX6_init 19 = .ok (.dup, 1) := by decide +kernel
theorem dX6_init_20 : decode cX6_init 20 = .ok (.invokespecial 20, 3) := by decide +kernel
theorem dX6_init_23 : decode cX6_init 23 = .ok (.putfield 21, 3) := by decide +kernel
theorem dX6_init_26 : decode cX6_init 26 = .ok (.aload_n 0, 1) := by decide +kernel
theorem dX6_init_27 : decode cX6_init 27 = .ok (.new 25, 3) := by decide +kernel
theorem dX6_init_30 : decode cX6_init 30 = .ok (.dup, 1) := by decide +kernel
theorem dX6_init_31 : decode cX6_init 31 = .ok (.invokespecial 27, 3) := by decide +kernel
theorem dX6_init_34 : decode cX6_init 34 = .ok (.putfield 28, 3) := by decide +kernel
theorem dX6_init_37 : decode cX6_init 37 = .ok (.aload_n 0, 1) := by decide +kernel
theorem dX6_init_38 : decode cX6_init 38 = .ok (.new 32, 3) := by decide +kernel
theorem dX6_init_41 : decode cX6_init 41 = .ok (.dup, 1) := by decide +kernel
theorem dX6_init_42 : decode cX6_init 42 = .ok (.invokespecial 34, 3) := by decide +kernel
theorem dX6_init_45 : decode cX6_init 45 = .ok (.putfield 35, 3) := by decide +kernel
theorem dX6_init_48 : decode cX6_init 48 = .ok (.aload_n 0, 1) := by decide +kernel
theorem dX6_init_49 : decode cX6_init 49 = .ok (.bipush 6, 2) := by decide +kernel
theorem dX6_init_51 : decode cX6_init 51 = .ok (.newarray .int, 2) := by decide +kernel
theorem dX6_init_53 : decode cX6_init 53 = .ok (.putfield 39, 3) := by decide +kernel
theorem dX6_init_56 : decode cX6_init 56 = .ok (.aload_n 0, 1) := by decide +kernel
theorem dX6_init_57 : decode cX6_init 57 = .ok (.bipush 6, 2) := by decide +kernel
theorem dX6_init_59 : decode cX6_init 59 = .ok (.newarray .int, 2) := by decide +kernel
theorem dX6_init_61 : decode cX6_init 61 = .ok (.putfield 43, 3) := by decide +kernel
theorem dX6_init_64 : decode cX6_init 64 = .ok (.aload_n 0, 1) := by decide +kernel
theorem dX6_init_65 : decode cX6_init 65 = .ok (.bipush 6, 2) := by decide +kernel
theorem dX6_init_67 : decode cX6_init 67 = .ok (.newarray .int, 2) := by decide +kernel
theorem dX6_init_69 : decode cX6_init 69 = .ok (.putfield 46, 3) := by decide +kernel
theorem dX6_init_72 : decode cX6_init 72 = .ok (.return_, 1) := by decide +kernel
set_option maxRecDepth 20000 in
theorem ggX6_rule_X6_isState : GoodIn wsX6_rule wsX6_isState := goodIn_r _ [6] (by decide +kernel) (by decide +kernel)
set_option maxRecDepth 20000 in
theorem gX6_rule_X6_isState : GoodIn wsX6_rule (va_wsS RX6 49 yX6_isState wsX6_isState) := goodIn_app (goodIn_of _ (by decide +kernel)) ggX6_rule_X6_isState
set_option maxRecDepth 20000 in
theorem ggX6_rule_X5_of : GoodIn wsX6_rule wsX5_of := goodIn_r _ [10] (by decide +kernel) (by decide +kernel)
set_option maxRecDepth 20000 in
theorem gX6_rule_X5_of : GoodIn wsX6_rule (va_wsS RX6 53 yX5_of wsX5_of) := goodIn_app (goodIn_of _ (by decide +kernel)) ggX6_rule_X5_of
set_option maxRecDepth 20000 in
theorem ggX6_rule_X4_put : GoodIn wsX6_rule wsX4_put := goodIn_r _ [15, 16, 17, 18, 19, 20, 21, 14, 22, 30, 31, 32] (by decide +kernel) (by decide +kernel)
set_option maxRecDepth 20000 in
theorem gX6_rule_X4_put : GoodIn wsX6_rule (wsV RX6 59 RX4 yX4_put wsX4_put) := goodIn_app (goodIn_of _ (by decide +kernel)) ggX6_rule_X4_put
theorem dX6_rule_0 : decode cX6_rule 0 = .ok (.iload_n 1, 1) := by decide +kernel
theorem dX6_rule_1 : decode cX6_rule 1 = .ok (.invokestatic 49, 3) := by decide +kernel
theorem dX6_rule_4 : decode cX6_rule 4 = .ok (.ifCond .eq 25, 3) := by decide +kernel
theorem dX6_rule_7 : decode cX6_rule 7 = .ok (.iload_n 2, 1) := by decide +kernel
theorem dX6_rule_8 : decode cX6_rule 8 = .ok (.invokestatic 49, 3) := by decide +kernel
theorem dX6_rule_11 : decode cX6_rule 11 = .ok (.ifCond .eq 18, 3) := by decide +kernel
theorem dX6_rule_14 : decode cX6_rule 14 = .ok (.iload_n 3, 1) := by decide +kernel
theorem dX6_rule_15 : decode cX6_rule 15 = .ok (.invokestatic 49, 3) := by decide +kernel
theorem dX6_rule_18 : decode cX6_rule 18 = .ok (.ifCond .eq 11, 3) := by decide +kernel
theorem dX6_rule_21 : decode cX6_rule 21 = .ok (.iload 4, 2) := by decide +kernel
theorem dX6_rule_23 : decode cX6_rule 23 = .ok (.invokestatic 49, 3) := by decide +kernel
theorem dX6_rule_26 : decode cX6_rule 26 = .ok (.ifCond .ne 5, 3) := by decide +kernel
theorem dX6_rule_29 : decode cX6_rule 29 = .ok (.iconst (-1), 1) := by decide +kernel
theorem dX6_rule_30 : decode cX6_rule 30 = .ok (.ireturn, 1) := by decide +kernel
theorem dX6_rule_31 : decode cX6_rule 31 = .ok (.aload_n 0, 1) := by decide +kernel
theorem dX6_rule_32 : decode cX6_rule 32 = .ok (.getfield 12, 3) := by decide +kernel
theorem dX6_rule_35 : decode cX6_rule 35 = .ok (.iload_n 1, 1) := by decide +kernel
theorem dX6_rule_36 : decode cX6_rule 36 = .ok (.iload_n 2, 1) := by decide +kernel
theorem dX6_rule_37 : decode cX6_rule 37 = .ok (.invokestatic 53, 3) := by decide +kernel
theorem dX6_rule_40 : decode cX6_rule 40 = .ok (.iload_n 3, 1) := by decide +kernel
theorem dX6_rule_41 : decode cX6_rule 41 = .ok (.iload 4, 2) := by decide +kernel
theorem dX6_rule_43 : decode cX6_rule 43 = .ok (.invokestatic 53, 3) := by decide +kernel
theorem dX6_rule_46 : decode cX6_rule 46 = .ok (.invokevirtual 59, 3) := by decide +kernel
theorem dX6_rule_49 : decode cX6_rule 49 = .ok (.aload_n 0, 1) := by decide +kernel
theorem dX6_rule_50 : decode cX6_rule 50 = .ok (.getfield 12, 3) := by decide +kernel
theorem dX6_rule_53 : decode cX6_rule 53 = .ok (.getfield 63, 3) := by decide +kernel
theorem dX6_rule_56 : decode cX6_rule 56 = .ok (.ireturn, 1) := by decide +kernel
set_option maxRecDepth 20000 in
theorem ggX6_unrule_X6_isState : GoodIn wsX6_unrule wsX6_isState := goodIn_r _ [6] (by decide +kernel) (by decide +kernel)
set_option maxRecDepth 20000 in
theorem gX6_unrule_X6_isState : GoodIn wsX6_unrule (va_wsS RX6 49 yX6_isState wsX6_isState) := goodIn_app (goodIn_of _ (by decide +kernel)) ggX6_unrule_X6_isState
set_option maxRecDepth 20000 in
theorem ggX6_unrule_X5_of : GoodIn wsX6_unrule wsX5_of := goodIn_r _ [10] (by decide +kernel) (by decide +kernel)
set_option maxRecDepth 20000 in
theorem gX6_unrule_X5_of : GoodIn wsX6_unrule (va_wsS RX6 53 yX5_of wsX5_of) := goodIn_app (goodIn_of _ (by decide +kernel)) ggX6_unrule_X5_of
set_option maxRecDepth 20000 in
theorem ggX6_unrule_X4_outcome : GoodIn wsX6_unrule wsX4_outcome := goodIn_r _ [15, 16, 30, 31, 32] (by decide +kernel) (by decide +kernel)
set_option maxRecDepth 20000 in
theorem gX6_unrule_X4_outcome : GoodIn wsX6_unrule (wsV RX6 67 RX4 yX4_outcome wsX4_outcome) := goodIn_app (goodIn_of _ (by decide +kernel)) ggX6_unrule_X4_outcome
set_option maxRecDepth 20000 in
theorem ggX6_unrule_X4_take : GoodIn wsX6_unrule wsX4_take := goodIn_r _ [20, 21, 22, 16, 30, 31, 32] (by decide +kernel) (by decide +kernel)
set_option maxRecDepth 20000 in
theorem gX6_unrule_X4_take : GoodIn wsX6_unrule (wsV RX6 71 RX4 yX4_take wsX4_take) := goodIn_app (goodIn_of _ (by decide +kernel)) ggX6_unrule_X4_take
theorem dX6_unrule_0 : decode cX6_unrule 0 = .ok (.iload_n 1, 1) := by decide +kernel
theorem dX6_unrule_1 : decode cX6_unrule 1 = .ok (.invokestatic 49, 3) := by decide +kernel
theorem dX6_unrule_4 : decode cX6_unrule 4 = .ok (.ifCond .eq 10, 3) := by decide +kernel
theorem dX6_unrule_7 : decode cX6_unrule 7 = .ok (.iload_n 2, 1) := by decide +kernel
theorem dX6_unrule_8 : decode cX6_unrule 8 = .ok (.invokestatic 49, 3) := by decide +kernel
theorem dX6_unrule_11 : decode cX6_unrule 11 = .ok (.ifCond .ne 5, 3) := by decide +kernel
theorem dX6_unrule_14 : decode cX6_unrule 14 = .ok (.iconst (-1), 1) := by decide +kernel
theorem dX6_unrule_15 : decode cX6_unrule 15 = .ok (.ireturn, 1) := by decide +kernel
theorem dX6_unrule_16 : decode cX6_unrule 16 = .ok (.iload_n 1, 1) := by decide +kernel
theorem dX6_unrule_17 : decode cX6_unrule 17 = .ok (.iload_n 2, 1) := by decide +kernel
theorem dX6_unrule_18 : decode cX6_unrule 18 = .ok (.invokestatic 53, 3) := by decide +kernel
theorem dX6_unrule_21 : decode cX6_unrule 21 = .ok (.istore_n 3, 1) := by decide +kernel
theorem dX6_unrule_22 : decode cX6_unrule 22 = .ok (.aload_n 0, 1) := by decide +kernel
theorem dX6_unrule_23 : decode cX6_unrule 23 = .ok (.getfield 12, 3) := by decide +kernel
theorem dX6_unrule_26 : decode cX6_unrule 26 = .ok (.iload_n 3, 1) := by decide +kernel
theorem dX6_unrule_27 : decode cX6_unrule 27 = .ok (.invokevirtual 67, 3) := by decide +kernel
theorem dX6_unrule_30 : decode cX6_unrule 30 = .ok (.ifCond .ge 6, 3) := by decide +kernel
theorem dX6_unrule_33 : decode cX6_unrule 33 = .ok (.bipush (-3), 2) := by decide +kernel
theorem dX6_unrule_35 : decode cX6_unrule 35 = .ok (.ireturn, 1) := by decide +kernel
theorem dX6_unrule_36 : decode cX6_unrule 36 = .ok (.aload_n 0, 1) := by decide +kernel
theorem dX6_unrule_37 : decode cX6_unrule 37 = .ok (.getfield 12, 3) := by decide +kernel
theorem dX6_unrule_40 : decode cX6_unrule 40 = .ok (.iload_n 3, 1) := by decide +kernel
theorem dX6_unrule_41 : decode cX6_unrule 41 = .ok (.invokevirtual 71, 3) := by decide +kernel
theorem dX6_unrule_44 : decode cX6_unrule 44 = .ok (.aload_n 0, 1) := by decide +kernel
theorem dX6_unrule_45 : decode cX6_unrule 45 = .ok (.getfield 12, 3) := by decide +kernel
theorem dX6_unrule_48 : decode cX6_unrule 48 = .ok (.getfield 63, 3) := by decide +kernel
theorem dX6_unrule_51 : decode cX6_unrule 51 = .ok (.ireturn, 1) := by decide +kernel
set_option maxRecDepth 20000 in
theorem ggX6_preset_X4_clear : GoodIn wsX6_preset wsX4_clear := goodIn_r _ [10, 11, 12, 13, 14, 15, 16, 37, 38, 39] (by decide +kernel) (by decide +kernel)
set_option maxRecDepth 20000 in
theorem gX6_preset_X4_clear : GoodIn wsX6_preset (wsV RX6 84 RX4 yX4_clear wsX4_clear) := goodIn_app (goodIn_of _ (by decide +kernel)) ggX6_preset_X4_clear
set_option maxRecDepth 20000 in
theorem ggX6_preset_X5_of : GoodIn wsX6_preset wsX5_of := goodIn_r _ [20] (by decide +kernel) (by decide +kernel)
set_option maxRecDepth 20000 in
theorem gX6_preset_X5_of : GoodIn wsX6_preset (va_wsS RX6 53 yX5_of wsX5_of) := goodIn_app (goodIn_of _ (by decide +kernel)) ggX6_preset_X5_of
set_option maxRecDepth 20000 in
theorem ggX6_preset_X4_put : GoodIn wsX6_preset wsX4_put := goodIn_r _ [24, 11, 12, 25, 26, 27, 28, 9, 29, 37, 38, 39] (by decide +kernel) (by decide +kernel)
set_option maxRecDepth 20000 in
theorem gX6_preset_X4_put : GoodIn wsX6_preset (wsV RX6 59 RX4 yX4_put wsX4_put) := goodIn_app (goodIn_of _ (by decide +kernel)) ggX6_preset_X4_put
theorem dX6_preset_0 : decode cX6_preset 0 = .ok (.iload_n 1, 1) := by decide +kernel
theorem dX6_preset_1 : decode cX6_preset 1 = .ok (.ifCond .lt 8, 3) := by decide +kernel
theorem dX6_preset_4 : decode cX6_preset 4 = .ok (.iload_n 1, 1) := by decide +kernel
theorem dX6_preset_5 : decode cX6_preset 5 = .ok (.iconst 2, 1) := by decide +kernel
theorem dX6_preset_6 : decode cX6_preset 6 = .ok (.if_icmp .le 6, 3) := by decide +kernel
theorem dX6_preset_9 : decode cX6_preset 9 = .ok (.bipush (-2), 2) := by decide +kernel
theorem dX6_preset_11 : decode cX6_preset 11 = .ok (.ireturn, 1) := by decide +kernel
theorem dX6_preset_12 : decode cX6_preset 12 = .ok (.iload_n 1, 1) := by decide +kernel
theorem dX6_preset_13 : decode cX6_preset 13 = .ok (.ifCond .ne 9, 3) := by decide +kernel
theorem dX6_preset_16 : decode cX6_preset 16 = .ok (.getstatic 75, 3) := by decide +kernel
theorem dX6_preset_19 : decode cX6_preset 19 = .ok (.goto 17, 3) := by decide +kernel
theorem dX6_preset_22 : decode cX6_preset 22 = .ok (.iload_n 1, 1) := by decide +kernel
theorem dX6_preset_23 : decode cX6_preset 23 = .ok (.iconst 1, 1) := by decide +kernel
theorem dX6_preset_24 : decode cX6_preset 24 = .ok (.if_icmp .ne 9, 3) := by decide +kernel
theorem dX6_preset_27 : decode cX6_preset 27 = .ok (.getstatic 78, 3) := by decide +kernel
theorem dX6_preset_30 : decode cX6_preset 30 = .ok (.goto 6, 3) := by decide +kernel
theorem dX6_preset_33 : decode cX6_preset 33 = .ok (.getstatic 81, 3) := by decide +kernel
theorem dX6_preset_36 : decode cX6_preset 36 = .ok (.astore_n 2, 1) := by decide +kernel
theorem dX6_preset_37 : decode cX6_preset 37 = .ok (.aload_n 0, 1) := by decide +kernel
theorem dX6_preset_38 : decode cX6_preset 38 = .ok (.getfield 12, 3) := by decide +kernel
theorem dX6_preset_41 : decode cX6_preset 41 = .ok (.invokevirtual 84, 3) := by decide +kernel
theorem dX6_preset_44 : decode cX6_preset 44 = .ok (.iconst 0, 1) := by decide +kernel
theorem dX6_preset_45 : decode cX6_preset 45 = .ok (.istore_n 3, 1) := by decide +kernel
theorem dX6_preset_46 : decode cX6_preset 46 = .ok (.iload_n 3, 1) := by decide +kernel
theorem dX6_preset_47 : decode cX6_preset 47 = .ok (.iconst 3, 1) := by decide +kernel
theorem dX6_preset_48 : decode cX6_preset 48 = .ok (.iadd, 1) := by decide +kernel
theorem dX6_preset_49 : decode cX6_preset 49 = .ok (.aload_n 2, 1) := by decide +kernel
theorem dX6_preset_50 : decode cX6_preset 50 = .ok (.arraylength, 1) := by decide +kernel
theorem dX6_preset_51 : decode cX6_preset 51 = .ok (.if_icmp .ge 40, 3) := by decide +kernel
theorem dX6_preset_54 : decode cX6_preset 54 = .ok (.aload_n 0, 1) := by decide +kernel
theorem dX6_preset_55 : decode cX6_preset 55 = .ok (.getfield 12, 3) := by decide +kernel
theorem dX6_preset_58 : decode cX6_preset 58 = .ok (.aload_n 2, 1) := by decide +kernel
theorem dX6_preset_59 : decode cX6_preset 59 = .ok (.iload_n 3, 1) := by decide +kernel
theorem dX6_preset_60 : decode cX6_preset 60 = .ok (.iaload, 1) := by decide +kernel
theorem dX6_preset_61 : decode cX6_preset 61 = .ok (.aload_n 2, 1) := by decide +kernel
theorem dX6_preset_62 : decode cX6_preset 62 = .ok (.iload_n 3, 1) := by decide +kernel
theorem dX6_preset_63 : decode cX6_preset 63 = .ok (.iconst 1, 1) := by decide +kernel
theorem dX6_preset_64 : decode cX6_preset 64 = .ok (.iadd, 1) := by decide +kernel
theorem dX6_preset_65 : decode cX6_preset 65 = .ok (.iaload, 1) := by decide +kernel
theorem dX6_preset_66 : decode cX6_preset 66 = .ok (.invokestatic 53, 3) := by decide +kernel
theorem dX6_preset_69 : decode cX6_preset 69 = .ok (.aload_n 2, 1) := by decide +kernel
theorem dX6_preset_70 : decode cX6_preset 70 = .ok (.iload_n 3, 1) := by decide +kernel
theorem dX6_preset_71 : decode cX6_preset 71 = .ok (.iconst 2, 1) := by decide +kernel
theorem dX6_preset_72 : decode cX6_preset 72 = .ok (.iadd, 1) := by decide +kernel
theorem dX6_preset_73 : decode cX6_preset 73 = .ok (.iaload, 1) := by decide +kernel
theorem dX6_preset_74 : decode cX6_preset 74 = .ok (.aload_n 2, 1) := by decide +kernel
theorem dX6_preset_75 : decode cX6_preset 75 = .ok (.iload_n 3, 1) := by decide +kernel
theorem dX6_preset_76 : decode cX6_preset 76 = .ok (.iconst 3, 1) := by decide +kernel
theorem dX6_preset_77 : decode cX6_preset 77 = .ok (.iadd, 1) := by decide +kernel
theorem dX6_preset_78 : decode cX6_preset 78 = .ok (.iaload, 1) := by decide +kernel
theorem dX6_preset_79 : decode cX6_preset 79 = .ok (.invokestatic 53, 3) := by decide +kernel
theorem dX6_preset_82 : decode cX6_preset 82 = .ok (.invokevirtual 59, 3) := by decide +kernel
theorem dX6_preset_85 : decode cX6_preset 85 = .ok (.iinc 3 4, 3) := by decide +kernel
theorem dX6_preset_88 : decode cX6_preset 88 = .ok (.goto (-42), 3) := by decide +kernel
theorem dX6_preset_91 : decode cX6_preset 91 = .ok (.aload_n 0, 1) := by decide +kernel
theorem dX6_preset_92 : decode cX6_preset 92 = .ok (.getfield 12, 3) := by decide +kernel
theorem dX6_preset_95 : decode cX6_preset 95 = .ok (.getfield 63, 3) := by decide +kernel
theorem dX6_preset_98 : decode cX6_preset 98 = .ok (.ireturn, 1) := by decide +kernel
set_option maxRecDepth 20000 in
theorem ggX6_ofRule_X4_twoAt : GoodIn wsX6_ofRule wsX4_twoAt := goodIn_r _ [7, 8, 28, 29, 30] (by decide +kernel) (by decide +kernel)
set_option maxRecDepth 20000 in
theorem gX6_ofRule_X4_twoAt : GoodIn wsX6_ofRule (wsV RX6 87 RX4 yX4_twoAt wsX4_twoAt) := goodIn_app (goodIn_of _ (by decide +kernel)) ggX6_ofRule_X4_twoAt
set_option maxRecDepth 20000 in
theorem ggX6_ofRule_X4_outcomeAt : GoodIn wsX6_ofRule wsX4_outcomeAt := goodIn_r _ [12, 13, 8, 28, 29, 30] (by decide +kernel) (by decide +kernel)
set_option maxRecDepth 20000 in
theorem gX6_ofRule_X4_outcomeAt : GoodIn wsX6_ofRule (wsV RX6 90 RX4 yX4_outcomeAt wsX4_outcomeAt) := goodIn_app (goodIn_of _ (by decide +kernel)) ggX6_ofRule_X4_outcomeAt
set_option maxRecDepth 20000 in
theorem ggX6_ofRule_X5_first : GoodIn wsX6_ofRule wsX5_first := goodIn_r _ [17] (by decide +kernel) (by decide +kernel)
set_option maxRecDepth 20000 in
theorem gX6_ofRule_X5_first : GoodIn wsX6_ofRule (va_wsS RX6 93 yX5_first wsX5_first) := goodIn_app (goodIn_of _ (by decide +kernel)) ggX6_ofRule_X5_first
set_option maxRecDepth 20000 in
theorem ggX6_ofRule_X5_second : GoodIn wsX6_ofRule wsX5_second := goodIn_r _ [20] (by decide +kernel) (by decide +kernel)
set_option maxRecDepth 20000 in
theorem gX6_ofRule_X5_second : GoodIn wsX6_ofRule (va_wsS RX6 96 yX5_second wsX5_second) := goodIn_app (goodIn_of _ (by decide +kernel)) ggX6_ofRule_X5_second
theorem dX6_ofRule_0 : decode cX6_ofRule 0 = .ok (.iload_n 1, 1) := by decide +kernel
theorem dX6_ofRule_1 : decode cX6_ofRule 1 = .ok (.ifCond .lt 14, 3) := by decide +kernel
theorem dX6_ofRule_4 : decode cX6_ofRule 4 = .ok (.iload_n 1, 1) := by decide +kernel
theorem dX6_ofRule_5 : decode cX6_ofRule 5 = .ok (.aload_n 0, 1) := by decide +kernel
theorem dX6_ofRule_6 : decode cX6_ofRule 6 = .ok (.getfield 12, 3) := by decide +kernel
theorem dX6_ofRule_9 : decode cX6_ofRule 9 = .ok (.getfield 63, 3) := by decide +kernel
theorem dX6_ofRule_12 : decode cX6_ofRule 12 = .ok (.if_icmp .lt 5, 3) := by decide +kernel
theorem dX6_ofRule_15 : decode cX6_ofRule 15 = .ok (.iconst (-1), 1) := by decide +kernel
theorem dX6_ofRule_16 : decode cX6_ofRule 16 = .ok (.ireturn, 1) := by decide +kernel
theorem dX6_ofRule_17 : decode cX6_ofRule 17 = .ok (.iload_n 2, 1) := by decide +kernel
theorem dX6_ofRule_18 : decode cX6_ofRule 18 = .ok (.ifCond .lt 8, 3) := by decide +kernel
theorem dX6_ofRule_21 : decode cX6_ofRule 21 = .ok (.iload_n 2, 1) := by decide +kernel
theorem dX6_ofRule_22 : decode cX6_ofRule 22 = .ok (.iconst 3, 1) := by decide +kernel
theorem dX6_ofRule_23 : decode cX6_ofRule 23 = .ok (.if_icmp .le 6, 3) := by decide +kernel
theorem dX6_ofRule_26 : decode cX6_ofRule 26 = .ok (.bipush (-2), 2) := by decide +kernel
theorem dX6_ofRule_28 : decode cX6_ofRule 28 = .ok (.ireturn, 1) := by decide +kernel
theorem dX6_ofRule_29 : decode cX6_ofRule 29 = .ok (.iload_n 2, 1) := by decide +kernel
theorem dX6_ofRule_30 : decode cX6_ofRule 30 = .ok (.iconst 2, 1) := by decide +kernel
theorem dX6_ofRule_31 : decode cX6_ofRule 31 = .ok (.if_icmp .ge 14, 3) := by decide +kernel
theorem dX6_ofRule_34 : decode cX6_ofRule 34 = .ok (.aload_n 0, 1) := by decide +kernel
theorem dX6_ofRule_35 : decode cX6_ofRule 35 = .ok (.getfield 12, 3) := by decide +kernel
theorem dX6_ofRule_38 : decode cX6_ofRule 38 = .ok (.iload_n 1, 1) := by decide +kernel
theorem dX6_ofRule_39 : decode cX6_ofRule 39 = .ok (.invokevirtual 87, 3) := by decide +kernel
theorem dX6_ofRule_42 : decode cX6_ofRule 42 = .ok (.goto 11, 3) := by decide +kernel
theorem dX6_ofRule_45 : decode cX6_ofRule 45 = .ok (.aload_n 0, 1) := by decide +kernel
theorem dX6_ofRule_46 : decode cX6_ofRule 46 = .ok (.getfield 12, 3) := by decide +kernel
theorem dX6_ofRule_49 : decode cX6_ofRule 49 = .ok (.iload_n 1, 1) := by decide +kernel
theorem dX6_ofRule_50 : decode cX6_ofRule 50 = .ok (.invokevirtual 90, 3) := by decide +kernel
theorem dX6_ofRule_53 : decode cX6_ofRule 53 = .ok (.istore_n 3, 1) := by decide +kernel
theorem dX6_ofRule_54 : decode cX6_ofRule 54 = .ok (.iload_n 2, 1) := by decide +kernel
theorem dX6_ofRule_55 : decode cX6_ofRule 55 = .ok (.iconst 2, 1) := by decide +kernel
theorem dX6_ofRule_56 : decode cX6_ofRule 56 = .ok (.irem, 1) := by decide +kernel
theorem dX6_ofRule_57 : decode cX6_ofRule 57 = .ok (.ifCond .ne 10, 3) := by decide +kernel
theorem dX6_ofRule_60 : decode cX6_ofRule 60 = .ok (.iload_n 3, 1) := by decide +kernel
theorem dX6_ofRule_61 : decode cX6_ofRule 61 = .ok (.invokestatic 93, 3) := by decide +kernel
theorem dX6_ofRule_64 : decode cX6_ofRule 64 = .ok (.goto 7, 3) := by decide +kernel
theorem dX6_ofRule_67 : decode cX6_ofRule 67 = .ok (.iload_n 3, 1) := by decide +kernel
theorem dX6_ofRule_68 : decode cX6_ofRule 68 = .ok (.invokestatic 96, 3) := by decide +kernel
theorem dX6_ofRule_71 : decode cX6_ofRule 71 = .ok (.ireturn, 1) := by decide +kernel
set_option maxRecDepth 20000 in
theorem ggX6_tells_X6_isState : GoodIn wsX6_tells wsX6_isState := goodIn_r _ [5] (by decide +kernel) (by decide +kernel)
set_option maxRecDepth 20000 in
theorem gX6_tells_X6_isState : GoodIn wsX6_tells (va_wsS RX6 49 yX6_isState wsX6_isState) := goodIn_app (goodIn_of _ (by decide +kernel)) ggX6_tells_X6_isState
theorem dX6_tells_0 : decode cX6_tells 0 = .ok (.iload_n 1, 1) := by decide +kernel
theorem dX6_tells_1 : decode cX6_tells 1 = .ok (.invokestatic 49, 3) := by decide +kernel
theorem dX6_tells_4 : decode cX6_tells 4 = .ok (.ifCond .ne 5, 3) := by decide +kernel
theorem dX6_tells_7 : decode cX6_tells 7 = .ok (.iconst (-1), 1) := by decide +kernel
theorem dX6_tells_8 : decode cX6_tells 8 = .ok (.ireturn, 1) := by decide +kernel
theorem dX6_tells_9 : decode cX6_tells 9 = .ok (.iload_n 2, 1) := by decide +kernel
theorem dX6_tells_10 : decode cX6_tells 10 = .ok (.ifCond .lt 8, 3) := by decide +kernel
theorem dX6_tells_13 : decode cX6_tells 13 = .ok (.iload_n 2, 1) := by decide +kernel
theorem dX6_tells_14 : decode cX6_tells 14 = .ok (.iconst 2, 1) := by decide +kernel
theorem dX6_tells_15 : decode cX6_tells 15 = .ok (.if_icmp .le 6, 3) := by decide +kernel
theorem dX6_tells_18 : decode cX6_tells 18 = .ok (.bipush (-2), 2) := by decide +kernel
theorem dX6_tells_20 : decode cX6_tells 20 = .ok (.ireturn, 1) := by decide +kernel
theorem dX6_tells_21 : decode cX6_tells 21 = .ok (.aload_n 0, 1) := by decide +kernel
theorem dX6_tells_22 : decode cX6_tells 22 = .ok (.getfield 39, 3) := by decide +kernel
theorem dX6_tells_25 : decode cX6_tells 25 = .ok (.iload_n 1, 1) := by decide +kernel
theorem dX6_tells_26 : decode cX6_tells 26 = .ok (.iaload, 1) := by decide +kernel
theorem dX6_tells_27 : decode cX6_tells 27 = .ok (.istore_n 3, 1) := by decide +kernel
theorem dX6_tells_28 : decode cX6_tells 28 = .ok (.aload_n 0, 1) := by decide +kernel
theorem dX6_tells_29 : decode cX6_tells 29 = .ok (.getfield 39, 3) := by decide +kernel
theorem dX6_tells_32 : decode cX6_tells 32 = .ok (.iload_n 1, 1) := by decide +kernel
theorem dX6_tells_33 : decode cX6_tells 33 = .ok (.iload_n 2, 1) := by decide +kernel
theorem dX6_tells_34 : decode cX6_tells 34 = .ok (.iastore, 1) := by decide +kernel
theorem dX6_tells_35 : decode cX6_tells 35 = .ok (.iload_n 3, 1) := by decide +kernel
theorem dX6_tells_36 : decode cX6_tells 36 = .ok (.ireturn, 1) := by decide +kernel
set_option maxRecDepth 20000 in
theorem ggX6_agents_X2_leave : GoodIn wsX6_agents wsX2_leave := goodIn_r _ [9, 10, 11, 12, 13, 14, 15, 16, 17, 30, 31, 32, 33, 34, 35] (by decide +kernel) (by decide +kernel)
set_option maxRecDepth 20000 in
theorem gX6_agents_X2_leave : GoodIn wsX6_agents (wsV RX6 103 RX2 yX2_leave wsX2_leave) := goodIn_app (goodIn_of _ (by decide +kernel)) ggX6_agents_X2_leave
set_option maxRecDepth 20000 in
theorem ggX6_agents_X2_come : GoodIn wsX6_agents wsX2_come := goodIn_r _ [21, 11, 22, 30, 31, 32, 33, 34, 35] (by decide +kernel) (by decide +kernel)
set_option maxRecDepth 20000 in
theorem gX6_agents_X2_come : GoodIn wsX6_agents (wsV RX6 106 RX2 yX2_come wsX2_come) := goodIn_app (goodIn_of _ (by decide +kernel)) ggX6_agents_X2_come
theorem dX6_agents_0 : decode cX6_agents 0 = .ok (.iload_n 1, 1) := by decide +kernel
theorem dX6_agents_1 : decode cX6_agents 1 = .ok (.ifCond .lt 26, 3) := by decide +kernel
theorem dX6_agents_4 : decode cX6_agents 4 = .ok (.iload_n 2, 1) := by decide +kernel
theorem dX6_agents_5 : decode cX6_agents 5 = .ok (.ifCond .lt 22, 3) := by decide +kernel
theorem dX6_agents_8 : decode cX6_agents 8 = .ok (.iload_n 3, 1) := by decide +kernel
theorem dX6_agents_9 : decode cX6_agents 9 = .ok (.ifCond .lt 18, 3) := by decide +kernel
theorem dX6_agents_12 : decode cX6_agents 12 = .ok (.iload 4, 2) := by decide +kernel
theorem dX6_agents_14 : decode cX6_agents 14 = .ok (.ifCond .lt 13, 3) := by decide +kernel
theorem dX6_agents_17 : decode cX6_agents 17 = .ok (.iload 5, 2) := by decide +kernel
theorem dX6_agents_19 : decode cX6_agents 19 = .ok (.ifCond .lt 8, 3) := by decide +kernel
theorem dX6_agents_22 : decode cX6_agents 22 = .ok (.iload 6, 2) := by decide +kernel
theorem dX6_agents_24 : decode cX6_agents 24 = .ok (.ifCond .ge 6, 3) := by decide +kernel
theorem dX6_agents_27 : decode cX6_agents 27 = .ok (.bipush (-2), 2) := by decide +kernel
theorem dX6_agents_29 : decode cX6_agents 29 = .ok (.ireturn, 1) := by decide +kernel
theorem dX6_agents_30 : decode cX6_agents 30 = .ok (.iload_n 1, 1) := by decide +kernel
theorem dX6_agents_31 : decode cX6_agents 31 = .ok (.i2l, 1) := by decide +kernel
theorem dX6_agents_32 : decode cX6_agents 32 = .ok (.iload_n 2, 1) := by decide +kernel
theorem dX6_agents_33 : decode cX6_agents 33 = .ok (.i2l, 1) := by decide +kernel
theorem dX6_agents_34 : decode cX6_agents 34 = .ok (.ladd, 1) := by decide +kernel
theorem dX6_agents_35 : decode cX6_agents 35 = .ok (.iload_n 3, 1) := by decide +kernel
theorem dX6_agents_36 : decode cX6_agents 36 = .ok (.i2l, 1) := by decide +kernel
theorem dX6_agents_37 : decode cX6_agents 37 = .ok (.ladd, 1) := by decide +kernel
theorem dX6_agents_38 : decode cX6_agents 38 = .ok (.iload 4, 2) := by decide +kernel
theorem dX6_agents_40 : decode cX6_agents 40 = .ok (.i2l, 1) := by decide +kernel
theorem dX6_agents_41 : decode cX6_agents 41 = .ok (.ladd, 1) := by decide +kernel
theorem dX6_agents_42 : decode cX6_agents 42 = .ok (.iload 5, 2) := by decide +kernel
theorem dX6_agents_44 : decode cX6_agents 44 = .ok (.i2l, 1) := by decide +kernel
theorem dX6_agents_45 : decode cX6_agents 45 = .ok (.ladd, 1) := by decide +kernel
theorem dX6_agents_46 : decode cX6_agents 46 = .ok (.iload 6, 2) := by decide +kernel
theorem dX6_agents_48 : decode cX6_agents 48 = .ok (.i2l, 1) := by decide +kernel
theorem dX6_agents_49 : decode cX6_agents 49 = .ok (.ladd, 1) := by decide +kernel
theorem dX6_agents_50 : decode cX6_agents 50 = .ok (.lstore 7, 2) := by decide +kernel
theorem dX6_agents_52 : decode cX6_agents 52 = .ok (.lload 7, 2) := by decide +kernel
theorem dX6_agents_54 : decode cX6_agents 54 = .ok (.ldc2_w 99, 3) := by decide +kernel
theorem dX6_agents_57 : decode cX6_agents 57 = .ok (.lcmp, 1) := by decide +kernel
theorem dX6_agents_58 : decode cX6_agents 58 = .ok (.ifCond .lt 12, 3) := by decide +kernel
theorem dX6_agents_61 : decode cX6_agents 61 = .ok (.lload 7, 2) := by decide +kernel
theorem dX6_agents_63 : decode cX6_agents 63 = .ok (.ldc2_w 101, 3) := by decide +kernel
theorem dX6_agents_66 : decode cX6_agents 66 = .ok (.lcmp, 1) := by decide +kernel
theorem dX6_agents_67 : decode cX6_agents 67 = .ok (.ifCond .le 6, 3) := by decide +kernel
theorem dX6_agents_70 : decode cX6_agents 70 = .ok (.bipush (-2), 2) := by decide +kernel
theorem dX6_agents_72 : decode cX6_agents 72 = .ok (.ireturn, 1) := by decide +kernel
theorem dX6_agents_73 : decode cX6_agents 73 = .ok (.aload_n 0, 1) := by decide +kernel
theorem dX6_agents_74 : decode cX6_agents 74 = .ok (.getfield 21, 3) := by decide +kernel
theorem dX6_agents_77 : decode cX6_agents 77 = .ok (.invokevirtual 103, 3) := by decide +kernel
theorem dX6_agents_80 : decode cX6_agents 80 = .ok (.aload_n 0, 1) := by decide +kernel
theorem dX6_agents_81 : decode cX6_agents 81 = .ok (.getfield 21, 3) := by decide +kernel
theorem dX6_agents_84 : decode cX6_agents 84 = .ok (.iconst 0, 1) := by decide +kernel
theorem dX6_agents_85 : decode cX6_agents 85 = .ok (.iload_n 1, 1) := by decide +kernel
theorem dX6_agents_86 : decode cX6_agents 86 = .ok (.invokevirtual 106, 3) := by decide +kernel
theorem dX6_agents_89 : decode cX6_agents 89 = .ok (.aload_n 0, 1) := by decide +kernel
theorem dX6_agents_90 : decode cX6_agents 90 = .ok (.getfield 21, 3) := by decide +kernel
theorem dX6_agents_93 : decode cX6_agents 93 = .ok (.iconst 1, 1) := by decide +kernel
theorem dX6_agents_94 : decode cX6_agents 94 = .ok (.iload_n 2, 1) := by decide +kernel
theorem dX6_agents_95 : decode cX6_agents 95 = .ok (.invokevirtual 106, 3) := by decide +kernel
theorem dX6_agents_98 : decode cX6_agents 98 = .ok (.aload_n 0, 1) := by decide +kernel
theorem dX6_agents_99 : decode cX6_agents 99 = .ok (.getfield 21, 3) := by decide +kernel
theorem dX6_agents_102 : decode cX6_agents 102 = .ok (.iconst 2, 1) := by decide +kernel
theorem dX6_agents_103 : decode cX6_agents 103 = .ok (.iload_n 3, 1) := by decide +kernel
theorem dX6_agents_104 : decode cX6_agents 104 = .ok (.invokevirtual 106, 3) := by decide +kernel
theorem dX6_agents_107 : decode cX6_agents 107 = .ok (.aload_n 0, 1) := by decide +kernel
theorem dX6_agents_108 : decode cX6_agents 108 = .ok (.getfield 21, 3) := by decide +kernel
theorem dX6_agents_111 : decode cX6_agents 111 = .ok (.iconst 3, 1) := by decide +kernel
theorem dX6_agents_112 : decode cX6_agents 112 = .ok (.iload 4, 2) := by decide +kernel
theorem dX6_agents_114 : decode cX6_agents 114 = .ok (.invokevirtual 106, 3) := by decide +kernel
theorem dX6_agents_117 : decode cX6_agents 117 = .ok (.aload_n 0, 1) := by decide +kernel
theorem dX6_agents_118 : decode cX6_agents 118 = .ok (.getfield 21, 3) := by decide +kernel
theorem dX6_agents_121 : decode cX6_agents 121 = .ok (.iconst 4, 1) := by decide +kernel
theorem dX6_agents_122 : decode cX6_agents 122 = .ok (.iload 5, 2) := by decide +kernel
theorem dX6_agents_124 : decode cX6_agents 124 = .ok (.invokevirtual 106, 3) := by decide +kernel
theorem dX6_agents_127 : decode cX6_agents 127 = .ok (.aload_n 0, 1) := by decide +kernel
theorem dX6_agents_128 : decode cX6_agents 128 = .ok (.getfield 21, 3) := by decide +kernel
theorem dX6_agents_131 : decode cX6_agents 131 = .ok (.iconst 5, 1) := by decide +kernel
theorem dX6_agents_132 : decode cX6_agents 132 = .ok (.iload 6, 2) := by decide +kernel
theorem dX6_agents_134 : decode cX6_agents 134 = .ok (.invokevirtual 106, 3) := by decide +kernel
theorem dX6_agents_137 : decode cX6_agents 137 = .ok (.aload_n 0, 1) := by decide +kernel
theorem dX6_agents_138 : decode cX6_agents 138 = .ok (.getfield 21, 3) := by decide +kernel
theorem dX6_agents_141 : decode cX6_agents 141 = .ok (.getfield 109, 3) := by decide +kernel
theorem dX6_agents_144 : decode cX6_agents 144 = .ok (.ireturn, 1) := by decide +kernel
set_option maxRecDepth 20000 in
theorem ggX6_agent_X2_has : GoodIn wsX6_agent wsX2_has := goodIn_r _ [6, 7, 20, 21, 22, 23, 24, 25] (by decide +kernel) (by decide +kernel)
set_option maxRecDepth 20000 in
theorem gX6_agent_X2_has : GoodIn wsX6_agent (wsV RX6 112 RX2 yX2_has wsX2_has) := goodIn_app (goodIn_of _ (by decide +kernel)) ggX6_agent_X2_has
set_option maxRecDepth 20000 in
theorem ggX6_agent_X2_stateOf : GoodIn wsX6_agent wsX2_stateOf := goodIn_r _ [11, 12, 20, 21, 22, 23, 24, 25] (by decide +kernel) (by decide +kernel)
set_option maxRecDepth 20000 in
theorem gX6_agent_X2_stateOf : GoodIn wsX6_agent (wsV RX6 115 RX2 yX2_stateOf wsX2_stateOf) := goodIn_app (goodIn_of _ (by decide +kernel)) ggX6_agent_X2_stateOf
theorem dX6_agent_0 : decode cX6_agent 0 = .ok (.aload_n 0, 1) := by decide +kernel
theorem dX6_agent_1 : decode cX6_agent 1 = .ok (.getfield 21, 3) := by decide +kernel
theorem dX6_agent_4 : decode cX6_agent 4 = .ok (.iload_n 1, 1) := by decide +kernel
theorem dX6_agent_5 : decode cX6_agent 5 = .ok (.invokevirtual 112, 3) := by decide +kernel
theorem dX6_agent_8 : decode cX6_agent 8 = .ok (.ifCond .eq 14, 3) := by decide +kernel
theorem dX6_agent_11 : decode cX6_agent 11 = .ok (.aload_n 0, 1) := by decide +kernel
theorem dX6_agent_12 : decode cX6_agent 12 = .ok (.getfield 21, 3) := by decide +kernel
theorem dX6_agent_15 : decode cX6_agent 15 = .ok (.iload_n 1, 1) := by decide +kernel
theorem dX6_agent_16 : decode cX6_agent 16 = .ok (.invokevirtual 115, 3) := by decide +kernel
theorem dX6_agent_19 : decode cX6_agent 19 = .ok (.goto 4, 3) := by decide +kernel
theorem dX6_agent_22 : decode cX6_agent 22 = .ok (.iconst (-1), 1) := by decide +kernel
theorem dX6_agent_23 : decode cX6_agent 23 = .ok (.ireturn, 1) := by decide +kernel
set_option maxRecDepth 20000 in
theorem ggX6_meet_X2_has : GoodIn wsX6_meet wsX2_has := goodIn_r _ [7, 8, 40, 41, 42, 43, 44, 45] (by decide +kernel) (by decide +kernel)
set_option maxRecDepth 20000 in
theorem gX6_meet_X2_has : GoodIn wsX6_meet (wsV RX6 112 RX2 yX2_has wsX2_has) := goodIn_app (goodIn_of _ (by decide +kernel)) ggX6_meet_X2_has
set_option maxRecDepth 20000 in
theorem ggX6_meet_X2_bringTogether : GoodIn wsX6_meet wsX2_bringTogether := goodIn_r _ [12, 13, 14, 15, 16, 17, 18, 19, 20, 21, 22, 23, 24, 25, 26, 27, 28, 29, 30, 31, 32, 40, 41, 42, 43, 44, 45, 46, 47, 48] (by decide +kernel) (by decide +kernel)
set_option maxRecDepth 20000 in
theorem gX6_meet_X2_bringTogether : GoodIn wsX6_meet (wsV RX6 118 RX2 yX2_bringTogether wsX2_bringTogether) := goodIn_app (goodIn_of _ (by decide +kernel)) ggX6_meet_X2_bringTogether
theorem dX6_meet_0 : decode cX6_meet 0 = .ok (.aload_n 0, 1) := by decide +kernel
theorem dX6_meet_1 : decode cX6_meet 1 = .ok (.getfield 21, 3) := by decide +kernel
theorem dX6_meet_4 : decode cX6_meet 4 = .ok (.iload_n 1, 1) := by decide +kernel
theorem dX6_meet_5 : decode cX6_meet 5 = .ok (.invokevirtual 112, 3) := by decide +kernel
theorem dX6_meet_8 : decode cX6_meet 8 = .ok (.ifCond .eq 14, 3) := by decide +kernel
theorem dX6_meet_11 : decode cX6_meet 11 = .ok (.aload_n 0, 1) := by decide +kernel
theorem dX6_meet_12 : decode cX6_meet 12 = .ok (.getfield 21, 3) := by decide +kernel
theorem dX6_meet_15 : decode cX6_meet 15 = .ok (.iload_n 2, 1) := by decide +kernel
theorem dX6_meet_16 : decode cX6_meet 16 = .ok (.invokevirtual 112, 3) := by decide +kernel
theorem dX6_meet_19 : decode cX6_meet 19 = .ok (.ifCond .ne 5, 3) := by decide +kernel
theorem dX6_meet_22 : decode cX6_meet 22 = .ok (.iconst (-1), 1) := by decide +kernel
theorem dX6_meet_23 : decode cX6_meet 23 = .ok (.ireturn, 1) := by decide +kernel
theorem dX6_meet_24 : decode cX6_meet 24 = .ok (.iload_n 1, 1) := by decide +kernel
theorem dX6_meet_25 : decode cX6_meet 25 = .ok (.iload_n 2, 1) := by decide +kernel
theorem dX6_meet_26 : decode cX6_meet 26 = .ok (.if_icmp .ne 6, 3) := by decide +kernel
theorem dX6_meet_29 : decode cX6_meet 29 = .ok (.bipush (-3), 2) := by decide +kernel
theorem dX6_meet_31 : decode cX6_meet 31 = .ok (.ireturn, 1) := by decide +kernel
theorem dX6_meet_32 : decode cX6_meet 32 = .ok (.aload_n 0, 1) := by decide +kernel
theorem dX6_meet_33 : decode cX6_meet 33 = .ok (.getfield 21, 3) := by decide +kernel
theorem dX6_meet_36 : decode cX6_meet 36 = .ok (.aload_n 0, 1) := by decide +kernel
theorem dX6_meet_37 : decode cX6_meet 37 = .ok (.getfield 12, 3) := by decide +kernel
theorem dX6_meet_40 : decode cX6_meet 40 = .ok (.iload_n 1, 1) := by decide +kernel
theorem dX6_meet_41 : decode cX6_meet 41 = .ok (.iload_n 2, 1) := by decide +kernel
theorem dX6_meet_42 : decode cX6_meet 42 = .ok (.invokevirtual 118, 3) := by decide +kernel
theorem dX6_meet_45 : decode cX6_meet 45 = .ok (.ireturn, 1) := by decide +kernel
theorem dX6_seed_0 : decode cX6_seed 0 = .ok (.aload_n 0, 1) := by decide +kernel
theorem dX6_seed_1 : decode cX6_seed 1 = .ok (.getfield 21, 3) := by decide +kernel
theorem dX6_seed_4 : decode cX6_seed 4 = .ok (.getfield 122, 3) := by decide +kernel
theorem dX6_seed_7 : decode cX6_seed 7 = .ok (.istore_n 2, 1) := by decide +kernel
theorem dX6_seed_8 : decode cX6_seed 8 = .ok (.aload_n 0, 1) := by decide +kernel
theorem dX6_seed_9 : decode cX6_seed 9 = .ok (.getfield 21, 3) := by decide +kernel
theorem dX6_seed_12 : decode cX6_seed 12 = .ok (.iload_n 1, 1) := by decide +kernel
theorem dX6_seed_13 : decode cX6_seed 13 = .ok (.putfield 122, 3) := by decide +kernel
theorem dX6_seed_16 : decode cX6_seed 16 = .ok (.iload_n 2, 1) := by decide +kernel
theorem dX6_seed_17 : decode cX6_seed 17 = .ok (.ireturn, 1) := by decide +kernel
set_option maxRecDepth 20000 in
theorem ggX6_run_X2_bringDrawn : GoodIn wsX6_run wsX2_bringDrawn := goodIn_r _ [8, 9, 10, 11, 12, 13, 14, 7, 15, 16, 17, 18, 19, 20, 21, 22, 23, 24, 25, 26, 27, 28, 29, 30, 31, 32, 33, 34, 35, 43, 44, 45, 46, 47, 48, 49, 50, 51] (by decide +kernel) (by decide +kernel)
set_option maxRecDepth 20000 in
theorem gX6_run_X2_bringDrawn : GoodIn wsX6_run (wsV RX6 125 RX2 yX2_bringDrawn wsX2_bringDrawn) := goodIn_app (goodIn_of _ (by decide +kernel)) ggX6_run_X2_bringDrawn
theorem dX6_run_0 : decode cX6_run 0 = .ok (.iload_n 1, 1) := by decide +kernel
theorem dX6_run_1 : decode cX6_run 1 = .ok (.iconst 1, 1) := by decide +kernel
theorem dX6_run_2 : decode cX6_run 2 = .ok (.if_icmp .lt 10, 3) := by decide +kernel
theorem dX6_run_5 : decode cX6_run 5 = .ok (.iload_n 1, 1) := by decide +kernel
theorem dX6_run_6 : decode cX6_run 6 = .ok (.sipush 1000, 3) := by decide +kernel
theorem dX6_run_9 : decode cX6_run 9 = .ok (.if_icmp .le 6, 3) := by decide +kernel
theorem dX6_run_12 : decode cX6_run 12 = .ok (.bipush (-2), 2) := by decide +kernel
theorem dX6_run_14 : decode cX6_run 14 = .ok (.ireturn, 1) := by decide +kernel
theorem dX6_run_15 : decode cX6_run 15 = .ok (.aload_n 0, 1) := by decide +kernel
theorem dX6_run_16 : decode cX6_run 16 = .ok (.getfield 21, 3) := by decide +kernel
theorem dX6_run_19 : decode cX6_run 19 = .ok (.getfield 109, 3) := by decide +kernel
theorem dX6_run_22 : decode cX6_run 22 = .ok (.ifCond .ne 6, 3) := by decide +kernel
theorem dX6_run_25 : decode cX6_run 25 = .ok (.bipush (-3), 2) := by decide +kernel
theorem dX6_run_27 : decode cX6_run 27 = .ok (.ireturn, 1) := by decide +kernel
theorem dX6_run_28 : decode cX6_run 28 = .ok (.iconst 0, 1) := by decide +kernel
theorem dX6_run_29 : decode cX6_run 29 = .ok (.istore_n 2, 1) := by decide +kernel
theorem dX6_run_30 : decode cX6_run 30 = .ok (.iconst 0, 1) := by decide +kernel
theorem dX6_run_31 : decode cX6_run 31 = .ok (.istore_n 3, 1) := by decide +kernel
theorem dX6_run_32 : decode cX6_run 32 = .ok (.iload_n 3, 1) := by decide +kernel
theorem dX6_run_33 : decode cX6_run 33 = .ok (.iload_n 1, 1) := by decide +kernel
theorem dX6_run_34 : decode cX6_run 34 = .ok (.if_icmp .ge 23, 3) := by decide +kernel
theorem dX6_run_37 : decode cX6_run 37 = .ok (.iload_n 2, 1) := by decide +kernel
theorem dX6_run_38 : decode cX6_run 38 = .ok (.aload_n 0, 1) := by decide +kernel
theorem dX6_run_39 : decode cX6_run 39 = .ok (.getfield 21, 3) := by decide +kernel
theorem dX6_run_42 : decode cX6_run 42 = .ok (.aload_n 0, 1) := by decide +kernel
theorem dX6_run_43 : decode cX6_run 43 = .ok (.getfield 12, 3) := by decide +kernel
theorem dX6_run_46 : decode cX6_run 46 = .ok (.invokevirtual 125, 3) := by decide +kernel
theorem dX6_run_49 : decode cX6_run 49 = .ok (.iadd, 1) := by decide +kernel
theorem dX6_run_50 : decode cX6_run 50 = .ok (.istore_n 2, 1) := by decide +kernel
theorem dX6_run_51 : decode cX6_run 51 = .ok (.iinc 3 1, 3) := by decide +kernel
theorem dX6_run_54 : decode cX6_run 54 = .ok (.goto (-22), 3) := by decide +kernel
theorem dX6_run_57 : decode cX6_run 57 = .ok (.iload_n 2, 1) := by decide +kernel
theorem dX6_run_58 : decode cX6_run 58 = .ok (.ireturn, 1) := by decide +kernel
set_option maxRecDepth 20000 in
theorem ggX6_waits_X2_has : GoodIn wsX6_waits wsX2_has := goodIn_r _ [6, 7, 21, 22, 23, 24, 25, 26] (by decide +kernel) (by decide +kernel)
set_option maxRecDepth 20000 in
theorem gX6_waits_X2_has : GoodIn wsX6_waits (wsV RX6 112 RX2 yX2_has wsX2_has) := goodIn_app (goodIn_of _ (by decide +kernel)) ggX6_waits_X2_has
set_option maxRecDepth 20000 in
theorem ggX6_waits_X2_waitOf : GoodIn wsX6_waits wsX2_waitOf := goodIn_r _ [11, 12, 13, 21, 22, 23, 24, 25, 26] (by decide +kernel) (by decide +kernel)
set_option maxRecDepth 20000 in
theorem gX6_waits_X2_waitOf : GoodIn wsX6_waits (wsV RX6 129 RX2 yX2_waitOf wsX2_waitOf) := goodIn_app (goodIn_of _ (by decide +kernel)) ggX6_waits_X2_waitOf
theorem dX6_waits_0 : decode cX6_waits 0 = .ok (.aload_n 0, 1) := by decide +kernel
theorem dX6_waits_1 : decode cX6_waits 1 = .ok (.getfield 21, 3) := by decide +kernel
theorem dX6_waits_4 : decode cX6_waits 4 = .ok (.iload_n 1, 1) := by decide +kernel
theorem dX6_waits_5 : decode cX6_waits 5 = .ok (.invokevirtual 112, 3) := by decide +kernel
theorem dX6_waits_8 : decode cX6_waits 8 = .ok (.ifCond .eq 14, 3) := by decide +kernel
theorem dX6_waits_11 : decode cX6_waits 11 = .ok (.aload_n 0, 1) := by decide +kernel
theorem dX6_waits_12 : decode cX6_waits 12 = .ok (.getfield 21, 3) := by decide +kernel
theorem dX6_waits_15 : decode cX6_waits 15 = .ok (.iload_n 2, 1) := by decide +kernel
theorem dX6_waits_16 : decode cX6_waits 16 = .ok (.invokevirtual 112, 3) := by decide +kernel
theorem dX6_waits_19 : decode cX6_waits 19 = .ok (.ifCond .ne 5, 3) := by decide +kernel
theorem dX6_waits_22 : decode cX6_waits 22 = .ok (.iconst (-1), 1) := by decide +kernel
theorem dX6_waits_23 : decode cX6_waits 23 = .ok (.ireturn, 1) := by decide +kernel
theorem dX6_waits_24 : decode cX6_waits 24 = .ok (.iload_n 1, 1) := by decide +kernel
theorem dX6_waits_25 : decode cX6_waits 25 = .ok (.iload_n 2, 1) := by decide +kernel
theorem dX6_waits_26 : decode cX6_waits 26 = .ok (.if_icmp .ne 6, 3) := by decide +kernel
theorem dX6_waits_29 : decode cX6_waits 29 = .ok (.bipush (-3), 2) := by decide +kernel
theorem dX6_waits_31 : decode cX6_waits 31 = .ok (.ireturn, 1) := by decide +kernel
theorem dX6_waits_32 : decode cX6_waits 32 = .ok (.aload_n 0, 1) := by decide +kernel
theorem dX6_waits_33 : decode cX6_waits 33 = .ok (.getfield 21, 3) := by decide +kernel
theorem dX6_waits_36 : decode cX6_waits 36 = .ok (.iload_n 1, 1) := by decide +kernel
theorem dX6_waits_37 : decode cX6_waits 37 = .ok (.iload_n 2, 1) := by decide +kernel
theorem dX6_waits_38 : decode cX6_waits 38 = .ok (.invokevirtual 129, 3) := by decide +kernel
theorem dX6_waits_41 : decode cX6_waits 41 = .ok (.ireturn, 1) := by decide +kernel
set_option maxRecDepth 20000 in
theorem ggX6_unfair_X2_howManyAbove : GoodIn wsX6_unfair wsX2_howManyAbove := goodIn_r _ [8, 9, 10, 11, 12, 7, 13, 14, 15, 16, 17, 18, 19, 31, 32, 33, 34, 35, 36] (by decide +kernel) (by decide +kernel)
set_option maxRecDepth 20000 in
theorem gX6_unfair_X2_howManyAbove : GoodIn wsX6_unfair (wsV RX6 133 RX2 yX2_howManyAbove wsX2_howManyAbove) := goodIn_app (goodIn_of _ (by decide +kernel)) ggX6_unfair_X2_howManyAbove
set_option maxRecDepth 20000 in
theorem ggX6_unfair_X2_firstAbove : GoodIn wsX6_unfair wsX2_firstAbove := goodIn_r _ [23, 9, 10, 11, 12, 7, 13, 14, 15, 16, 17, 18, 19, 31, 32, 33, 34, 35, 36] (by decide +kernel) (by decide +kernel)
set_option maxRecDepth 20000 in
theorem gX6_unfair_X2_firstAbove : GoodIn wsX6_unfair (wsV RX6 136 RX2 yX2_firstAbove wsX2_firstAbove) := goodIn_app (goodIn_of _ (by decide +kernel)) ggX6_unfair_X2_firstAbove
theorem dX6_unfair_0 : decode cX6_unfair 0 = .ok (.iload_n 1, 1) := by decide +kernel
theorem dX6_unfair_1 : decode cX6_unfair 1 = .ok (.ifCond .lt 18, 3) := by decide +kernel
theorem dX6_unfair_4 : decode cX6_unfair 4 = .ok (.iload_n 1, 1) := by decide +kernel
theorem dX6_unfair_5 : decode cX6_unfair 5 = .ok (.ldc 132, 2) := by decide +kernel
theorem dX6_unfair_7 : decode cX6_unfair 7 = .ok (.if_icmp .gt 12, 3) := by decide +kernel
theorem dX6_unfair_10 : decode cX6_unfair 10 = .ok (.iload_n 2, 1) := by decide +kernel
theorem dX6_unfair_11 : decode cX6_unfair 11 = .ok (.ifCond .lt 8, 3) := by decide +kernel
theorem dX6_unfair_14 : decode cX6_unfair 14 = .ok (.iload_n 2, 1) := by decide +kernel
theorem dX6_unfair_15 : decode cX6_unfair 15 = .ok (.iconst 1, 1) := by decide +kernel
theorem dX6_unfair_16 : decode cX6_unfair 16 = .ok (.if_icmp .le 6, 3) := by decide +kernel
theorem dX6_unfair_19 : decode cX6_unfair 19 = .ok (.bipush (-2), 2) := by decide +kernel
theorem dX6_unfair_21 : decode cX6_unfair 21 = .ok (.ireturn, 1) := by decide +kernel
theorem dX6_unfair_22 : decode cX6_unfair 22 = .ok (.aload_n 0, 1) := by decide +kernel
theorem dX6_unfair_23 : decode cX6_unfair 23 = .ok (.getfield 21, 3) := by decide +kernel
theorem dX6_unfair_26 : decode cX6_unfair 26 = .ok (.getfield 109, 3) := by decide +kernel
theorem dX6_unfair_29 : decode cX6_unfair 29 = .ok (.ifCond .ne 6, 3) := by decide +kernel
theorem dX6_unfair_32 : decode cX6_unfair 32 = .ok (.bipush (-3), 2) := by decide +kernel
theorem dX6_unfair_34 : decode cX6_unfair 34 = .ok (.ireturn, 1) := by decide +kernel
theorem dX6_unfair_35 : decode cX6_unfair 35 = .ok (.iload_n 2, 1) := by decide +kernel
theorem dX6_unfair_36 : decode cX6_unfair 36 = .ok (.ifCond .ne 14, 3) := by decide +kernel
theorem dX6_unfair_39 : decode cX6_unfair 39 = .ok (.aload_n 0, 1) := by decide +kernel
theorem dX6_unfair_40 : decode cX6_unfair 40 = .ok (.getfield 21, 3) := by decide +kernel
theorem dX6_unfair_43 : decode cX6_unfair 43 = .ok (.iload_n 1, 1) := by decide +kernel
theorem dX6_unfair_44 : decode cX6_unfair 44 = .ok (.invokevirtual 133, 3) := by decide +kernel
theorem dX6_unfair_47 : decode cX6_unfair 47 = .ok (.goto 11, 3) := by decide +kernel
theorem dX6_unfair_50 : decode cX6_unfair 50 = .ok (.aload_n 0, 1) := by decide +kernel
theorem dX6_unfair_51 : decode cX6_unfair 51 = .ok (.getfield 21, 3) := by decide +kernel
theorem dX6_unfair_54 : decode cX6_unfair 54 = .ok (.iload_n 1, 1) := by decide +kernel
theorem dX6_unfair_55 : decode cX6_unfair 55 = .ok (.invokevirtual 136, 3) := by decide +kernel
theorem dX6_unfair_58 : decode cX6_unfair 58 = .ok (.ireturn, 1) := by decide +kernel
set_option maxRecDepth 20000 in
theorem ggX6_in_X6_isState : GoodIn wsX6_in wsX6_isState := goodIn_r _ [5] (by decide +kernel) (by decide +kernel)
set_option maxRecDepth 20000 in
theorem gX6_in_X6_isState : GoodIn wsX6_in (va_wsS RX6 49 yX6_isState wsX6_isState) := goodIn_app (goodIn_of _ (by decide +kernel)) ggX6_in_X6_isState
set_option maxRecDepth 20000 in
theorem ggX6_in_X2_configuration : GoodIn wsX6_in wsX2_configuration := goodIn_r _ [10, 11, 12, 13, 14, 15, 16, 27, 28, 29, 30, 31, 32] (by decide +kernel) (by decide +kernel)
set_option maxRecDepth 20000 in
theorem gX6_in_X2_configuration : GoodIn wsX6_in (wsV RX6 139 RX2 yX2_configuration wsX2_configuration) := goodIn_app (goodIn_of _ (by decide +kernel)) ggX6_in_X2_configuration
set_option maxRecDepth 20000 in
theorem ggX6_in_X1_countIn : GoodIn wsX6_in wsX1_countIn := goodIn_r _ [19] (by decide +kernel) (by decide +kernel)
set_option maxRecDepth 20000 in
theorem gX6_in_X1_countIn : GoodIn wsX6_in (va_wsS RX6 143 yX1_countIn wsX1_countIn) := goodIn_app (goodIn_of _ (by decide +kernel)) ggX6_in_X1_countIn
theorem dX6_in_0 : decode cX6_in 0 = .ok (.iload_n 1, 1) := by decide +kernel
theorem dX6_in_1 : decode cX6_in 1 = .ok (.invokestatic 49, 3) := by decide +kernel
theorem dX6_in_4 : decode cX6_in 4 = .ok (.ifCond .eq 17, 3) := by decide +kernel
theorem dX6_in_7 : decode cX6_in 7 = .ok (.aload_n 0, 1) := by decide +kernel
theorem dX6_in_8 : decode cX6_in 8 = .ok (.getfield 21, 3) := by decide +kernel
theorem dX6_in_11 : decode cX6_in 11 = .ok (.invokevirtual 139, 3) := by decide +kernel
theorem dX6_in_14 : decode cX6_in 14 = .ok (.iload_n 1, 1) := by decide +kernel
theorem dX6_in_15 : decode cX6_in 15 = .ok (.invokestatic 143, 3) := by decide +kernel
theorem dX6_in_18 : decode cX6_in 18 = .ok (.goto 4, 3) := by decide +kernel
theorem dX6_in_21 : decode cX6_in 21 = .ok (.iconst (-1), 1) := by decide +kernel
theorem dX6_in_22 : decode cX6_in 22 = .ok (.ireturn, 1) := by decide +kernel
set_option maxRecDepth 20000 in
theorem ggX6_reached_X6_explorePresent : GoodIn wsX6_reached wsX6_explorePresent := goodIn_r _ [9, 3, 10, 1, 11, 12, 13, 14, 15, 16, 17, 18, 19, 20, 21, 22, 23, 24, 25, 26, 27, 28, 29, 30, 31, 32, 33, 34, 35, 36, 37, 38, 39, 40, 41, 42, 43, 44, 45, 46, 47, 48, 49, 50, 51, 52, 53, 54, 55, 56, 57, 58, 59, 60, 61, 62, 63, 64, 65, 66, 67, 68, 69, 70, 71, 72, 73, 74, 75, 76, 77, 78, 79, 80, 81, 82, 83, 84, 85, 86, 87, 88, 89, 90, 91, 92, 93, 94, 95, 96, 97, 98, 99, 116, 117, 118, 119, 120, 121, 122, 123, 124, 125, 126, 127, 128, 129, 130, 131, 132, 133, 134, 135, 136, 137, 138, 139, 140, 141, 142, 143] (by decide +kernel) (by decide +kernel)
set_option maxRecDepth 20000 in
theorem gX6_reached_X6_explorePresent : GoodIn wsX6_reached (wsV RX6 148 RX6 yX6_explorePresent wsX6_explorePresent) := goodIn_app (goodIn_of _ (by decide +kernel)) ggX6_reached_X6_explorePresent
set_option maxRecDepth 20000 in
theorem ggX6_reached_X3_howManyAgreed : GoodIn wsX6_reached wsX3_howManyAgreed := goodIn_r _ [103, 31, 83, 129, 130, 131, 132, 133, 134, 135, 136, 137, 138, 139, 140] (by decide +kernel) (by decide +kernel)
set_option maxRecDepth 20000 in
theorem gX6_reached_X3_howManyAgreed : GoodIn wsX6_reached (wsV RX6 152 RX3 yX3_howManyAgreed wsX3_howManyAgreed) := goodIn_app (goodIn_of _ (by decide +kernel)) ggX6_reached_X3_howManyAgreed
set_option maxRecDepth 20000 in
theorem ggX6_reached_X3_howManyStable : GoodIn wsX6_reached wsX3_howManyStable := goodIn_r _ [107, 31, 84, 129, 130, 131, 132, 133, 134, 135, 136, 137, 138, 139, 140] (by decide +kernel) (by decide +kernel)
set_option maxRecDepth 20000 in
theorem gX6_reached_X3_howManyStable : GoodIn wsX6_reached (wsV RX6 155 RX3 yX3_howManyStable wsX3_howManyStable) := goodIn_app (goodIn_of _ (by decide +kernel)) ggX6_reached_X3_howManyStable
set_option maxRecDepth 20000 in
theorem ggX6_reached_X3_howManySilent : GoodIn wsX6_reached wsX3_howManySilent := goodIn_r _ [111, 31, 112, 113, 114, 26, 115, 30, 96, 97, 98, 99, 32, 129, 130, 131, 132, 133, 134, 135, 136, 137, 138, 139, 140] (by decide +kernel) (by decide +kernel)
set_option maxRecDepth 20000 in
theorem gX6_reached_X3_howManySilent : GoodIn wsX6_reached (wsV RX6 158 RX3 yX3_howManySilent wsX3_howManySilent) := goodIn_app (goodIn_of _ (by decide +kernel)) ggX6_reached_X3_howManySilent
theorem dX6_reached_0 : decode cX6_reached 0 = .ok (.iload_n 1, 1) := by decide +kernel
theorem dX6_reached_1 : decode cX6_reached 1 = .ok (.ifCond .lt 8, 3) := by decide +kernel
theorem dX6_reached_4 : decode cX6_reached 4 = .ok (.iload_n 1, 1) := by decide +kernel
theorem dX6_reached_5 : decode cX6_reached 5 = .ok (.iconst 3, 1) := by decide +kernel
theorem dX6_reached_6 : decode cX6_reached 6 = .ok (.if_icmp .le 6, 3) := by decide +kernel
theorem dX6_reached_9 : decode cX6_reached 9 = .ok (.bipush (-2), 2) := by decide +kernel
theorem dX6_reached_11 : decode cX6_reached 11 = .ok (.ireturn, 1) := by decide +kernel
theorem dX6_reached_12 : decode cX6_reached 12 = .ok (.aload_n 0, 1) := by decide +kernel
theorem dX6_reached_13 : decode cX6_reached 13 = .ok (.getfield 21, 3) := by decide +kernel
theorem dX6_reached_16 : decode cX6_reached 16 = .ok (.getfield 109, 3) := by decide +kernel
theorem dX6_reached_19 : decode cX6_reached 19 = .ok (.ifCond .ne 6, 3) := by decide +kernel
theorem dX6_reached_22 : decode cX6_reached 22 = .ok (.bipush (-3), 2) := by decide +kernel
theorem dX6_reached_24 : decode cX6_reached 24 = .ok (.ireturn, 1) := by decide +kernel
theorem dX6_reached_25 : decode cX6_reached 25 = .ok (.aload_n 0, 1) := by decide +kernel
theorem dX6_reached_26 : decode cX6_reached 26 = .ok (.invokevirtual 148, 3) := by decide +kernel
theorem dX6_reached_29 : decode cX6_reached 29 = .ok (.iload_n 1, 1) := by decide +kernel
theorem dX6_reached_30 : decode cX6_reached 30 = .ok (.tableswitch 50 0 2 #[26, 34, 42], 26) := by decide +kernel
theorem dX6_reached_56 : decode cX6_reached 56 = .ok (.aload_n 0, 1) := by decide +kernel
theorem dX6_reached_57 : decode cX6_reached 57 = .ok (.getfield 28, 3) := by decide +kernel
theorem dX6_reached_60 : decode cX6_reached 60 = .ok (.getfield 151, 3) := by decide +kernel
theorem dX6_reached_63 : decode cX6_reached 63 = .ok (.ireturn, 1) := by decide +kernel
theorem dX6_reached_64 : decode cX6_reached 64 = .ok (.aload_n 0, 1) := by decide +kernel
theorem dX6_reached_65 : decode cX6_reached 65 = .ok (.getfield 28, 3) := by decide +kernel
theorem dX6_reached_68 : decode cX6_reached 68 = .ok (.invokevirtual 152, 3) := by decide +kernel
theorem dX6_reached_71 : decode cX6_reached 71 = .ok (.ireturn, 1) := by decide +kernel
theorem dX6_reached_72 : decode cX6_reached 72 = .ok (.aload_n 0, 1) := by decide +kernel
theorem dX6_reached_73 : decode cX6_reached 73 = .ok (.getfield 28, 3) := by decide +kernel
theorem dX6_reached_76 : decode cX6_reached 76 = .ok (.invokevirtual 155, 3) := by decide +kernel
theorem dX6_reached_79 : decode cX6_reached 79 = .ok (.ireturn, 1) := by decide +kernel
theorem dX6_reached_80 : decode cX6_reached 80 = .ok (.aload_n 0, 1) := by decide +kernel
theorem dX6_reached_81 : decode cX6_reached 81 = .ok (.getfield 28, 3) := by decide +kernel
theorem dX6_reached_84 : decode cX6_reached 84 = .ok (.invokevirtual 158, 3) := by decide +kernel
theorem dX6_reached_87 : decode cX6_reached 87 = .ok (.ireturn, 1) := by decide +kernel
set_option maxRecDepth 20000 in
theorem ggX6_answer_X6_explorePresent : GoodIn wsX6_answer wsX6_explorePresent := goodIn_r _ [8, 3, 9, 1, 10, 11, 12, 13, 14, 15, 16, 17, 18, 19, 20, 21, 22, 23, 24, 25, 26, 27, 28, 29, 30, 31, 32, 33, 34, 35, 36, 37, 38, 39, 40, 41, 42, 43, 44, 45, 46, 47, 48, 49, 50, 51, 52, 53, 54, 55, 56, 57, 58, 59, 60, 61, 62, 63, 64, 65, 66, 67, 68, 69, 70, 71, 72, 73, 74, 75, 76, 77, 78, 79, 80, 81, 82, 83, 84, 85, 86, 87, 88, 89, 90, 91, 92, 93, 94, 95, 96, 97, 98, 103, 104, 105, 106, 107, 108, 109, 110, 111, 112, 113, 114, 115, 116, 117, 118, 119, 120, 121, 122, 123, 124, 125, 126, 127, 128, 129, 130] (by decide +kernel) (by decide +kernel)
set_option maxRecDepth 20000 in
theorem gX6_answer_X6_explorePresent : GoodIn wsX6_answer (wsV RX6 148 RX6 yX6_explorePresent wsX6_explorePresent) := goodIn_app (goodIn_of _ (by decide +kernel)) ggX6_answer_X6_explorePresent
set_option maxRecDepth 20000 in
theorem ggX6_answer_X3_answerAt : GoodIn wsX6_answer wsX3_answerAt := goodIn_r _ [102, 83, 116, 117, 118, 119, 120, 121, 122, 123, 124, 125, 126, 127] (by decide +kernel) (by decide +kernel)
set_option maxRecDepth 20000 in
theorem gX6_answer_X3_answerAt : GoodIn wsX6_answer (wsV RX6 161 RX3 yX3_answerAt wsX3_answerAt) := goodIn_app (goodIn_of _ (by decide +kernel)) ggX6_answer_X3_answerAt
theorem dX6_answer_0 : decode cX6_answer 0 = .ok (.aload_n 0, 1) := by decide +kernel
theorem dX6_answer_1 : decode cX6_answer 1 = .ok (.getfield 21, 3) := by decide +kernel
theorem dX6_answer_4 : decode cX6_answer 4 = .ok (.getfield 109, 3) := by decide +kernel
theorem dX6_answer_7 : decode cX6_answer 7 = .ok (.ifCond .ne 6, 3) := by decide +kernel
theorem dX6_answer_10 : decode cX6_answer 10 = .ok (.bipush (-3), 2) := by decide +kernel
theorem dX6_answer_12 : decode cX6_answer 12 = .ok (.ireturn, 1) := by decide +kernel
theorem dX6_answer_13 : decode cX6_answer 13 = .ok (.aload_n 0, 1) := by decide +kernel
theorem dX6_answer_14 : decode cX6_answer 14 = .ok (.invokevirtual 148, 3) := by decide +kernel
theorem dX6_answer_17 : decode cX6_answer 17 = .ok (.aload_n 0, 1) := by decide +kernel
theorem dX6_answer_18 : decode cX6_answer 18 = .ok (.getfield 28, 3) := by decide +kernel
theorem dX6_answer_21 : decode cX6_answer 21 = .ok (.iconst 0, 1) := by decide +kernel
theorem dX6_answer_22 : decode cX6_answer 22 = .ok (.invokevirtual 161, 3) := by decide +kernel
theorem dX6_answer_25 : decode cX6_answer 25 = .ok (.ireturn, 1) := by decide +kernel
set_option maxRecDepth 20000 in
theorem ggX6_decided_X6_explorePresent : GoodIn wsX6_decided wsX6_explorePresent := goodIn_r _ [8, 3, 9, 1, 10, 11, 12, 13, 14, 15, 16, 17, 18, 19, 20, 21, 22, 23, 24, 25, 26, 27, 28, 29, 30, 31, 32, 33, 34, 35, 36, 37, 38, 39, 40, 41, 42, 43, 44, 45, 46, 47, 48, 49, 50, 51, 52, 53, 54, 55, 56, 57, 58, 59, 60, 61, 62, 63, 64, 65, 66, 67, 68, 69, 70, 71, 72, 73, 74, 75, 76, 77, 78, 79, 80, 81, 82, 83, 84, 85, 86, 87, 88, 89, 90, 91, 92, 93, 94, 95, 96, 97, 98, 120, 121, 122, 123, 124, 125, 126, 127, 128, 129, 130, 131, 132, 133, 134, 135, 136, 137, 138, 139, 140, 141, 142, 143, 144, 145, 146, 147] (by decide +kernel) (by decide +kernel)
set_option maxRecDepth 20000 in
theorem gX6_decided_X6_explorePresent : GoodIn wsX6_decided (wsV RX6 148 RX6 yX6_explorePresent wsX6_explorePresent) := goodIn_app (goodIn_of _ (by decide +kernel)) ggX6_decided_X6_explorePresent
set_option maxRecDepth 20000 in
theorem ggX6_decided_X3_verdict : GoodIn wsX6_decided wsX3_verdict := goodIn_r _ [102, 103, 104, 105, 25, 106, 30, 83, 107, 108, 109, 110, 111, 112, 113, 114, 115, 116, 117, 118, 119, 29, 95, 96, 97, 98, 31, 133, 134, 135, 136, 137, 138, 139, 140, 141, 142, 143, 144] (by decide +kernel) (by decide +kernel)
set_option maxRecDepth 20000 in
theorem gX6_decided_X3_verdict : GoodIn wsX6_decided (wsV RX6 164 RX3 yX3_verdict wsX3_verdict) := goodIn_app (goodIn_of _ (by decide +kernel)) ggX6_decided_X3_verdict
theorem dX6_decided_0 : decode cX6_decided 0 = .ok (.aload_n 0, 1) := by decide +kernel
theorem dX6_decided_1 : decode cX6_decided 1 = .ok (.getfield 21, 3) := by decide +kernel
theorem dX6_decided_4 : decode cX6_decided 4 = .ok (.getfield 109, 3) := by decide +kernel
theorem dX6_decided_7 : decode cX6_decided 7 = .ok (.ifCond .ne 6, 3) := by decide +kernel
theorem dX6_decided_10 : decode cX6_decided 10 = .ok (.bipush (-3), 2) := by decide +kernel
theorem dX6_decided_12 : decode cX6_decided 12 = .ok (.ireturn, 1) := by decide +kernel
theorem dX6_decided_13 : decode cX6_decided 13 = .ok (.aload_n 0, 1) := by decide +kernel
theorem dX6_decided_14 : decode cX6_decided 14 = .ok (.invokevirtual 148, 3) := by decide +kernel
theorem dX6_decided_17 : decode cX6_decided 17 = .ok (.aload_n 0, 1) := by decide +kernel
theorem dX6_decided_18 : decode cX6_decided 18 = .ok (.getfield 28, 3) := by decide +kernel
theorem dX6_decided_21 : decode cX6_decided 21 = .ok (.invokevirtual 164, 3) := by decide +kernel
theorem dX6_decided_24 : decode cX6_decided 24 = .ok (.ireturn, 1) := by decide +kernel
set_option maxRecDepth 20000 in
theorem ggX6_soonest_X6_explorePresent : GoodIn wsX6_soonest wsX6_explorePresent := goodIn_r _ [8, 3, 9, 1, 10, 11, 12, 13, 14, 15, 16, 17, 18, 19, 20, 21, 22, 23, 24, 25, 26, 27, 28, 29, 30, 31, 32, 33, 34, 35, 36, 37, 38, 39, 40, 41, 42, 43, 44, 45, 46, 47, 48, 49, 50, 51, 52, 53, 54, 55, 56, 57, 58, 59, 60, 61, 62, 63, 64, 65, 66, 67, 68, 69, 70, 71, 72, 73, 74, 75, 76, 77, 78, 79, 80, 81, 82, 83, 84, 85, 86, 87, 88, 89, 90, 91, 92, 93, 94, 95, 96, 97, 98, 103, 104, 105, 106, 107, 108, 109, 110, 111, 112, 113, 114, 115, 116, 117, 118, 119, 120, 121, 122, 123, 124, 125, 126, 127, 128, 129, 130] (by decide +kernel) (by decide +kernel)
set_option maxRecDepth 20000 in
theorem gX6_soonest_X6_explorePresent : GoodIn wsX6_soonest (wsV RX6 148 RX6 yX6_explorePresent wsX6_explorePresent) := goodIn_app (goodIn_of _ (by decide +kernel)) ggX6_soonest_X6_explorePresent
set_option maxRecDepth 20000 in
theorem ggX6_soonest_X3_fewestTillStable : GoodIn wsX6_soonest wsX3_fewestTillStable := goodIn_r _ [102, 30, 83, 41, 116, 117, 118, 119, 120, 121, 122, 123, 124, 125, 126, 127] (by decide +kernel) (by decide +kernel)
set_option maxRecDepth 20000 in
theorem gX6_soonest_X3_fewestTillStable : GoodIn wsX6_soonest (wsV RX6 167 RX3 yX3_fewestTillStable wsX3_fewestTillStable) := goodIn_app (goodIn_of _ (by decide +kernel)) ggX6_soonest_X3_fewestTillStable
theorem dX6_soonest_0 : decode cX6_soonest 0 = .ok (.aload_n 0, 1) := by decide +kernel
theorem dX6_soonest_1 : decode cX6_soonest 1 = .ok (.getfield 21, 3) := by decide +kernel
theorem dX6_soonest_4 : decode cX6_soonest 4 = .ok (.getfield 109, 3) := by decide +kernel
theorem dX6_soonest_7 : decode cX6_soonest 7 = .ok (.ifCond .ne 6, 3) := by decide +kernel
theorem dX6_soonest_10 : decode cX6_soonest 10 = .ok (.bipush (-3), 2) := by decide +kernel
theorem dX6_soonest_12 : decode cX6_soonest 12 = .ok (.ireturn, 1) := by decide +kernel
theorem dX6_soonest_13 : decode cX6_soonest 13 = .ok (.aload_n 0, 1) := by decide +kernel
theorem dX6_soonest_14 : decode cX6_soonest 14 = .ok (.invokevirtual 148, 3) := by decide +kernel
theorem dX6_soonest_17 : decode cX6_soonest 17 = .ok (.aload_n 0, 1) := by decide +kernel
theorem dX6_soonest_18 : decode cX6_soonest 18 = .ok (.getfield 28, 3) := by decide +kernel
theorem dX6_soonest_21 : decode cX6_soonest 21 = .ok (.invokevirtual 167, 3) := by decide +kernel
theorem dX6_soonest_24 : decode cX6_soonest 24 = .ok (.ireturn, 1) := by decide +kernel
set_option maxRecDepth 20000 in
theorem ggX6_longest_X6_explorePresent : GoodIn wsX6_longest wsX6_explorePresent := goodIn_r _ [8, 3, 9, 1, 10, 11, 12, 13, 14, 15, 16, 17, 18, 19, 20, 21, 22, 23, 24, 25, 26, 27, 28, 29, 30, 31, 32, 33, 34, 35, 36, 37, 38, 39, 40, 41, 42, 43, 44, 45, 46, 47, 48, 49, 50, 51, 52, 53, 54, 55, 56, 57, 58, 59, 60, 61, 62, 63, 64, 65, 66, 67, 68, 69, 70, 71, 72, 73, 74, 75, 76, 77, 78, 79, 80, 81, 82, 83, 84, 85, 86, 87, 88, 89, 90, 91, 92, 93, 94, 95, 96, 97, 98, 118, 119, 120, 121, 122, 123, 124, 125, 126, 127, 128, 129, 130, 131, 132, 133, 134, 135, 136, 137, 138, 139, 140, 141, 142, 143, 144, 145] (by decide +kernel) (by decide +kernel)
set_option maxRecDepth 20000 in
theorem gX6_longest_X6_explorePresent : GoodIn wsX6_longest (wsV RX6 148 RX6 yX6_explorePresent wsX6_explorePresent) := goodIn_app (goodIn_of _ (by decide +kernel)) ggX6_longest_X6_explorePresent
set_option maxRecDepth 20000 in
theorem ggX6_longest_X3_mostChanges : GoodIn wsX6_longest wsX3_mostChanges := goodIn_r _ [102, 103, 104, 105, 106, 107, 108, 109, 30, 110, 111, 112, 25, 113, 29, 32, 33, 34, 35, 95, 96, 97, 98, 31, 114, 115, 116, 117, 131, 132, 133, 134, 135, 136, 137, 138, 139, 140, 141, 142] (by decide +kernel) (by decide +kernel)
set_option maxRecDepth 20000 in
theorem gX6_longest_X3_mostChanges : GoodIn wsX6_longest (wsV RX6 170 RX3 yX3_mostChanges wsX3_mostChanges) := goodIn_app (goodIn_of _ (by decide +kernel)) ggX6_longest_X3_mostChanges
theorem dX6_longest_0 : decode cX6_longest 0 = .ok (.aload_n 0, 1) := by decide +kernel
theorem dX6_longest_1 : decode cX6_longest 1 = .ok (.getfield 21, 3) := by decide +kernel
theorem dX6_longest_4 : decode cX6_longest 4 = .ok (.getfield 109, 3) := by decide +kernel
theorem dX6_longest_7 : decode cX6_longest 7 = .ok (.ifCond .ne 6, 3) := by decide +kernel
theorem dX6_longest_10 : decode cX6_longest 10 = .ok (.bipush (-3), 2) := by decide +kernel
theorem dX6_longest_12 : decode cX6_longest 12 = .ok (.ireturn, 1) := by decide +kernel
theorem dX6_longest_13 : decode cX6_longest 13 = .ok (.aload_n 0, 1) := by decide +kernel
theorem dX6_longest_14 : decode cX6_longest 14 = .ok (.invokevirtual 148, 3) := by decide +kernel
theorem dX6_longest_17 : decode cX6_longest 17 = .ok (.aload_n 0, 1) := by decide +kernel
theorem dX6_longest_18 : decode cX6_longest 18 = .ok (.getfield 28, 3) := by decide +kernel
theorem dX6_longest_21 : decode cX6_longest 21 = .ok (.invokevirtual 170, 3) := by decide +kernel
theorem dX6_longest_24 : decode cX6_longest 24 = .ok (.ireturn, 1) := by decide +kernel
set_option maxRecDepth 20000 in
theorem ggX6_odds_X6_explorePresent : GoodIn wsX6_odds wsX6_explorePresent := goodIn_r _ [11, 5, 6, 1, 12, 13, 14, 15, 16, 17, 18, 19, 20, 21, 22, 23, 24, 25, 26, 27, 28, 29, 30, 31, 32, 33, 34, 35, 36, 37, 38, 39, 40, 41, 42, 43, 44, 45, 46, 47, 48, 49, 50, 51, 52, 53, 54, 55, 56, 57, 58, 59, 60, 61, 62, 63, 64, 65, 66, 67, 68, 69, 70, 71, 72, 73, 74, 75, 76, 77, 78, 79, 80, 81, 82, 83, 84, 85, 86, 87, 88, 89, 90, 91, 92, 93, 94, 95, 96, 97, 98, 99, 100, 135, 136, 137, 138, 139, 140, 141, 142, 143, 144, 145, 146, 147, 148, 149, 150, 151, 152, 153, 154, 155, 156, 157, 158, 159, 160, 161, 162] (by decide +kernel) (by decide +kernel)
set_option maxRecDepth 20000 in
theorem gX6_odds_X6_explorePresent : GoodIn wsX6_odds (wsV RX6 148 RX6 yX6_explorePresent wsX6_explorePresent) := goodIn_app (goodIn_of _ (by decide +kernel)) ggX6_odds_X6_explorePresent
set_option maxRecDepth 20000 in
theorem ggX6_odds_X0_stableRows : GoodIn wsX6_odds wsX0_stableRows := goodIn_r _ [105, 106, 107, 108, 109, 110, 111, 112, 113, 114, 36, 115, 116, 117, 118, 104, 119, 120, 121, 98, 99, 27, 100, 33, 122, 123, 124, 125, 42, 126, 52, 53, 54, 55, 56, 127, 67, 22, 68, 69, 70, 71, 72, 73, 74, 75, 48, 49, 50, 128, 129, 130, 131, 85, 163, 164, 148, 149, 150, 151, 152, 153, 154, 155, 156, 157, 158, 159, 160, 161, 162] (by decide +kernel) (by decide +kernel)
set_option maxRecDepth 20000 in
theorem gX6_odds_X0_stableRows : GoodIn wsX6_odds (wsV RX6 175 RX0 yX0_stableRows wsX0_stableRows) := goodIn_app (goodIn_of _ (by decide +kernel)) ggX6_odds_X0_stableRows
set_option maxRecDepth 20000 in
theorem ggX6_odds_X6_commonDivisor : GoodIn wsX6_odds wsX6_commonDivisor := goodIn_r _ [134] (by decide +kernel) (by decide +kernel)
set_option maxRecDepth 20000 in
theorem gX6_odds_X6_commonDivisor : GoodIn wsX6_odds (va_wsS RX6 179 yX6_commonDivisor wsX6_commonDivisor) := goodIn_app (goodIn_of _ (by decide +kernel)) ggX6_odds_X6_commonDivisor
theorem dX6_odds_0 : decode cX6_odds 0 = .ok (.iload_n 1, 1) := by decide +kernel
theorem dX6_odds_1 : decode cX6_odds 1 = .ok (.ifCond .lt 28, 3) := by decide +kernel
theorem dX6_odds_4 : decode cX6_odds 4 = .ok (.iload_n 1, 1) := by decide +kernel
theorem dX6_odds_5 : decode cX6_odds 5 = .ok (.bipush 12, 2) := by decide +kernel
theorem dX6_odds_7 : decode cX6_odds 7 = .ok (.if_icmp .gt 22, 3) := by decide +kernel
theorem dX6_odds_10 : decode cX6_odds 10 = .ok (.iload_n 2, 1) := by decide +kernel
theorem dX6_odds_11 : decode cX6_odds 11 = .ok (.ifCond .lt 18, 3) := by decide +kernel
theorem dX6_odds_14 : decode cX6_odds 14 = .ok (.iload_n 2, 1) := by decide +kernel
theorem dX6_odds_15 : decode cX6_odds 15 = .ok (.iconst 1, 1) := by decide +kernel
theorem dX6_odds_16 : decode cX6_odds 16 = .ok (.if_icmp .gt 13, 3) := by decide +kernel
theorem dX6_odds_19 : decode cX6_odds 19 = .ok (.aload_n 0, 1) := by decide +kernel
theorem dX6_odds_20 : decode cX6_odds 20 = .ok (.getfield 21, 3) := by decide +kernel
theorem dX6_odds_23 : decode cX6_odds 23 = .ok (.getfield 109, 3) := by decide +kernel
theorem dX6_odds_26 : decode cX6_odds 26 = .ok (.ifCond .ne 7, 3) := by decide +kernel
theorem dX6_odds_29 : decode cX6_odds 29 = .ok (.ldc2_w 173, 3) := by decide +kernel
theorem dX6_odds_32 : decode cX6_odds 32 = .ok (.lreturn, 1) := by decide +kernel
theorem dX6_odds_33 : decode cX6_odds 33 = .ok (.aload_n 0, 1) := by decide +kernel
theorem dX6_odds_34 : decode cX6_odds 34 = .ok (.invokevirtual 148, 3) := by decide +kernel
theorem dX6_odds_37 : decode cX6_odds 37 = .ok (.aload_n 0, 1) := by decide +kernel
theorem dX6_odds_38 : decode cX6_odds 38 = .ok (.getfield 21, 3) := by decide +kernel
theorem dX6_odds_41 : decode cX6_odds 41 = .ok (.getfield 109, 3) := by decide +kernel
theorem dX6_odds_44 : decode cX6_odds 44 = .ok (.aload_n 0, 1) := by decide +kernel
theorem dX6_odds_45 : decode cX6_odds 45 = .ok (.getfield 21, 3) := by decide +kernel
theorem dX6_odds_48 : decode cX6_odds 48 = .ok (.getfield 109, 3) := by decide +kernel
theorem dX6_odds_51 : decode cX6_odds 51 = .ok (.iconst 1, 1) := by decide +kernel
theorem dX6_odds_52 : decode cX6_odds 52 = .ok (.isub, 1) := by decide +kernel
theorem dX6_odds_53 : decode cX6_odds 53 = .ok (.imul, 1) := by decide +kernel
theorem dX6_odds_54 : decode cX6_odds 54 = .ok (.istore_n 3, 1) := by decide +kernel
theorem dX6_odds_55 : decode cX6_odds 55 = .ok (.aload_n 0, 1) := by decide +kernel
theorem dX6_odds_56 : decode cX6_odds 56 = .ok (.getfield 35, 3) := by decide +kernel
theorem dX6_odds_59 : decode cX6_odds 59 = .ok (.aload_n 0, 1) := by decide +kernel
theorem dX6_odds_60 : decode cX6_odds 60 = .ok (.getfield 28, 3) := by decide +kernel
theorem dX6_odds_63 : decode cX6_odds 63 = .ok (.aload_n 0, 1) := by decide +kernel
theorem dX6_odds_64 : decode cX6_odds 64 = .ok (.getfield 12, 3) := by decide +kernel
theorem dX6_odds_67 : decode cX6_odds 67 = .ok (.iload_n 1, 1) := by decide +kernel
theorem dX6_odds_68 : decode cX6_odds 68 = .ok (.iload_n 3, 1) := by decide +kernel
theorem dX6_odds_69 : decode cX6_odds 69 = .ok (.invokevirtual 175, 3) := by decide +kernel
theorem dX6_odds_72 : decode cX6_odds 72 = .ok (.lstore 4, 2) := by decide +kernel
theorem dX6_odds_74 : decode cX6_odds 74 = .ok (.lconst 1, 1) := by decide +kernel
theorem dX6_odds_75 : decode cX6_odds 75 = .ok (.lstore 6, 2) := by decide +kernel
theorem dX6_odds_77 : decode cX6_odds 77 = .ok (.iconst 0, 1) := by decide +kernel
theorem dX6_odds_78 : decode cX6_odds 78 = .ok (.istore 8, 2) := by decide +kernel
theorem dX6_odds_80 : decode cX6_odds 80 = .ok (.iload 8, 2) := by decide +kernel
theorem dX6_odds_82 : decode cX6_odds 82 = .ok (.iload_n 1, 1) := by decide +kernel
theorem dX6_odds_83 : decode cX6_odds 83 = .ok (.if_icmp .ge 16, 3) := by decide +kernel
theorem dX6_odds_86 : decode cX6_odds 86 = .ok (.lload 6, 2) := by decide +kernel
theorem dX6_odds_88 : decode cX6_odds 88 = .ok (.iload_n 3, 1) := by decide +kernel
theorem dX6_odds_89 : decode cX6_odds 89 = .ok (.i2l, 1) := by decide +kernel
theorem dX6_odds_90 : decode cX6_odds 90 = .ok (.lmul, 1) := by decide +kernel
theorem dX6_odds_91 : decode cX6_odds 91 = .ok (.lstore 6, 2) := by decide +kernel
theorem dX6_odds_93 : decode cX6_odds 93 = .ok (.iinc 8 1, 3) := by decide +kernel
theorem dX6_odds_96 : decode cX6_odds 96 = .ok (.goto (-16), 3) := by decide +kernel
theorem dX6_odds_99 : decode cX6_odds 99 = .ok (.lload 4, 2) := by decide +kernel
theorem dX6_odds_101 : decode cX6_odds 101 = .ok (.lload 6, 2) := by decide +kernel
theorem dX6_odds_103 : decode cX6_odds 103 = .ok (.invokestatic 179, 3) := by decide +kernel
theorem dX6_odds_106 : decode cX6_odds 106 = .ok (.lstore 8, 2) := by decide +kernel
theorem dX6_odds_108 : decode cX6_odds 108 = .ok (.lload 8, 2) := by decide +kernel
theorem dX6_odds_110 : decode cX6_odds 110 = .ok (.lconst 1, 1) := by decide +kernel
theorem dX6_odds_111 : decode cX6_odds 111 = .ok (.lcmp, 1) := by decide +kernel
theorem dX6_odds_112 : decode cX6_odds 112 = .ok (.ifCond .ge 7, 3) := by decide +kernel
theorem dX6_odds_115 : decode cX6_odds 115 = .ok (.ldc2_w 173, 3) := by decide +kernel
theorem dX6_odds_118 : decode cX6_odds 118 = .ok (.lreturn, 1) := by decide +kernel
theorem dX6_odds_119 : decode cX6_odds 119 = .ok (.iload_n 2, 1) := by decide +kernel
theorem dX6_odds_120 : decode cX6_odds 120 = .ok (.ifCond .ne 11, 3) := by decide +kernel
theorem dX6_odds_123 : decode cX6_odds 123 = .ok (.lload 4, 2) := by decide +kernel
theorem dX6_odds_125 : decode cX6_odds 125 = .ok (.lload 8, 2) := by decide +kernel
theorem dX6_odds_127 : decode cX6_odds 127 = .ok (.ldiv, 1) := by decide +kernel
theorem dX6_odds_128 : decode cX6_odds 128 = .ok (.goto 8, 3) := by decide +kernel
theorem dX6_odds_131 : decode cX6_odds 131 = .ok (.lload 6, 2) := by decide +kernel
theorem dX6_odds_133 : decode cX6_odds 133 = .ok (.lload 8, 2) := by decide +kernel
theorem dX6_odds_135 : decode cX6_odds 135 = .ok (.ldiv, 1) := by decide +kernel
theorem dX6_odds_136 : decode cX6_odds 136 = .ok (.lreturn, 1) := by decide +kernel
set_option maxRecDepth 20000 in
theorem ggX6_weight_X6_isState : GoodIn wsX6_weight wsX6_isState := goodIn_r _ [5] (by decide +kernel) (by decide +kernel)
set_option maxRecDepth 20000 in
theorem gX6_weight_X6_isState : GoodIn wsX6_weight (va_wsS RX6 49 yX6_isState wsX6_isState) := goodIn_app (goodIn_of _ (by decide +kernel)) ggX6_weight_X6_isState
theorem dX6_weight_0 : decode cX6_weight 0 = .ok (.iload_n 1, 1) := by decide +kernel
theorem dX6_weight_1 : decode cX6_weight 1 = .ok (.invokestatic 49, 3) := by decide +kernel
theorem dX6_weight_4 : decode cX6_weight 4 = .ok (.ifCond .ne 5, 3) := by decide +kernel
theorem dX6_weight_7 : decode cX6_weight 7 = .ok (.iconst (-1), 1) := by decide +kernel
theorem dX6_weight_8 : decode cX6_weight 8 = .ok (.ireturn, 1) := by decide +kernel
theorem dX6_weight_9 : decode cX6_weight 9 = .ok (.iload_n 2, 1) := by decide +kernel
theorem dX6_weight_10 : decode cX6_weight 10 = .ok (.bipush (-9), 2) := by decide +kernel
theorem dX6_weight_12 : decode cX6_weight 12 = .ok (.if_icmp .lt 9, 3) := by decide +kernel
theorem dX6_weight_15 : decode cX6_weight 15 = .ok (.iload_n 2, 1) := by decide +kernel
theorem dX6_weight_16 : decode cX6_weight 16 = .ok (.bipush 9, 2) := by decide +kernel
theorem dX6_weight_18 : decode cX6_weight 18 = .ok (.if_icmp .le 6, 3) := by decide +kernel
theorem dX6_weight_21 : decode cX6_weight 21 = .ok (.bipush (-2), 2) := by decide +kernel
theorem dX6_weight_23 : decode cX6_weight 23 = .ok (.ireturn, 1) := by decide +kernel
theorem dX6_weight_24 : decode cX6_weight 24 = .ok (.aload_n 0, 1) := by decide +kernel
theorem dX6_weight_25 : decode cX6_weight 25 = .ok (.getfield 43, 3) := by decide +kernel
theorem dX6_weight_28 : decode cX6_weight 28 = .ok (.iload_n 1, 1) := by decide +kernel
theorem dX6_weight_29 : decode cX6_weight 29 = .ok (.iaload, 1) := by decide +kernel
theorem dX6_weight_30 : decode cX6_weight 30 = .ok (.istore_n 3, 1) := by decide +kernel
theorem dX6_weight_31 : decode cX6_weight 31 = .ok (.aload_n 0, 1) := by decide +kernel
theorem dX6_weight_32 : decode cX6_weight 32 = .ok (.getfield 43, 3) := by decide +kernel
theorem dX6_weight_35 : decode cX6_weight 35 = .ok (.iload_n 1, 1) := by decide +kernel
theorem dX6_weight_36 : decode cX6_weight 36 = .ok (.iload_n 2, 1) := by decide +kernel
theorem dX6_weight_37 : decode cX6_weight 37 = .ok (.iastore, 1) := by decide +kernel
theorem dX6_weight_38 : decode cX6_weight 38 = .ok (.iload_n 3, 1) := by decide +kernel
theorem dX6_weight_39 : decode cX6_weight 39 = .ok (.bipush 10, 2) := by decide +kernel
theorem dX6_weight_41 : decode cX6_weight 41 = .ok (.iadd, 1) := by decide +kernel
theorem dX6_weight_42 : decode cX6_weight 42 = .ok (.ireturn, 1) := by decide +kernel
set_option maxRecDepth 20000 in
theorem ggX6_sum_X2_stateOf : GoodIn wsX6_sum wsX2_stateOf := goodIn_r _ [8, 9, 17, 18, 19, 20, 21, 22] (by decide +kernel) (by decide +kernel)
set_option maxRecDepth 20000 in
theorem gX6_sum_X2_stateOf : GoodIn wsX6_sum (wsV RX6 115 RX2 yX2_stateOf wsX2_stateOf) := goodIn_app (goodIn_of _ (by decide +kernel)) ggX6_sum_X2_stateOf
theorem dX6_sum_0 : decode cX6_sum 0 = .ok (.aload_n 0, 1) := by decide +kernel
theorem dX6_sum_1 : decode cX6_sum 1 = .ok (.getfield 21, 3) := by decide +kernel
theorem dX6_sum_4 : decode cX6_sum 4 = .ok (.getfield 109, 3) := by decide +kernel
theorem dX6_sum_7 : decode cX6_sum 7 = .ok (.ifCond .ne 6, 3) := by decide +kernel
theorem dX6_sum_10 : decode cX6_sum 10 = .ok (.bipush (-3), 2) := by decide +kernel
theorem dX6_sum_12 : decode cX6_sum 12 = .ok (.ireturn, 1) := by decide +kernel
theorem dX6_sum_13 : decode cX6_sum 13 = .ok (.sipush 1000, 3) := by decide +kernel
theorem dX6_sum_16 : decode cX6_sum 16 = .ok (.istore_n 1, 1) := by decide +kernel
theorem dX6_sum_17 : decode cX6_sum 17 = .ok (.iconst 0, 1) := by decide +kernel
theorem dX6_sum_18 : decode cX6_sum 18 = .ok (.istore_n 2, 1) := by decide +kernel
theorem dX6_sum_19 : decode cX6_sum 19 = .ok (.iload_n 2, 1) := by decide +kernel
theorem dX6_sum_20 : decode cX6_sum 20 = .ok (.aload_n 0, 1) := by decide +kernel
theorem dX6_sum_21 : decode cX6_sum 21 = .ok (.getfield 21, 3) := by decide +kernel
theorem dX6_sum_24 : decode cX6_sum 24 = .ok (.getfield 109, 3) := by decide +kernel
theorem dX6_sum_27 : decode cX6_sum 27 = .ok (.if_icmp .ge 25, 3) := by decide +kernel
theorem dX6_sum_30 : decode cX6_sum 30 = .ok (.iload_n 1, 1) := by decide +kernel
theorem dX6_sum_31 : decode cX6_sum 31 = .ok (.aload_n 0, 1) := by decide +kernel
theorem dX6_sum_32 : decode cX6_sum 32 = .ok (.getfield 43, 3) := by decide +kernel
theorem dX6_sum_35 : decode cX6_sum 35 = .ok (.aload_n 0, 1) := by decide +kernel
theorem dX6_sum_36 : decode cX6_sum 36 = .ok (.getfield 21, 3) := by decide +kernel
theorem dX6_sum_39 : decode cX6_sum 39 = .ok (.iload_n 2, 1) := by decide +kernel
theorem dX6_sum_40 : decode cX6_sum 40 = .ok (.invokevirtual 115, 3) := by decide +kernel
theorem dX6_sum_43 : decode cX6_sum 43 = .ok (.iaload, 1) := by decide +kernel
theorem dX6_sum_44 : decode cX6_sum 44 = .ok (.iadd, 1) := by decide +kernel
theorem dX6_sum_45 : decode cX6_sum 45 = .ok (.istore_n 1, 1) := by decide +kernel
theorem dX6_sum_46 : decode cX6_sum 46 = .ok (.iinc 2 1, 3) := by decide +kernel
theorem dX6_sum_49 : decode cX6_sum 49 = .ok (.goto (-30), 3) := by decide +kernel
theorem dX6_sum_52 : decode cX6_sum 52 = .ok (.iload_n 1, 1) := by decide +kernel
theorem dX6_sum_53 : decode cX6_sum 53 = .ok (.ireturn, 1) := by decide +kernel
set_option maxRecDepth 20000 in
theorem ggX6_breaks_X6_isKept : GoodIn wsX6_breaks wsX6_isKept := goodIn_r _ [7, 8, 9, 10, 11, 12, 13, 14, 15, 16, 17, 18, 19, 20, 21, 22, 23, 24, 25, 33, 34, 35] (by decide +kernel) (by decide +kernel)
set_option maxRecDepth 20000 in
theorem gX6_breaks_X6_isKept : GoodIn wsX6_breaks (va_wsS RX6 183 yX6_isKept wsX6_isKept) := goodIn_app (goodIn_of _ (by decide +kernel)) ggX6_breaks_X6_isKept
theorem dX6_breaks_0 : decode cX6_breaks 0 = .ok (.iconst 0, 1) := by decide +kernel
theorem dX6_breaks_1 : decode cX6_breaks 1 = .ok (.istore_n 1, 1) := by decide +kernel
theorem dX6_breaks_2 : decode cX6_breaks 2 = .ok (.iload_n 1, 1) := by decide +kernel
theorem dX6_breaks_3 : decode cX6_breaks 3 = .ok (.aload_n 0, 1) := by decide +kernel
theorem dX6_breaks_4 : decode cX6_breaks 4 = .ok (.getfield 12, 3) := by decide +kernel
theorem dX6_breaks_7 : decode cX6_breaks 7 = .ok (.getfield 63, 3) := by decide +kernel
theorem dX6_breaks_10 : decode cX6_breaks 10 = .ok (.if_icmp .ge 26, 3) := by decide +kernel
theorem dX6_breaks_13 : decode cX6_breaks 13 = .ok (.aload_n 0, 1) := by decide +kernel
theorem dX6_breaks_14 : decode cX6_breaks 14 = .ok (.getfield 12, 3) := by decide +kernel
theorem dX6_breaks_17 : decode cX6_breaks 17 = .ok (.iload_n 1, 1) := by decide +kernel
theorem dX6_breaks_18 : decode cX6_breaks 18 = .ok (.aload_n 0, 1) := by decide +kernel
theorem dX6_breaks_19 : decode cX6_breaks 19 = .ok (.getfield 43, 3) := by decide +kernel
theorem dX6_breaks_22 : decode cX6_breaks 22 = .ok (.invokestatic 183, 3) := by decide +kernel
theorem dX6_breaks_25 : decode cX6_breaks 25 = .ok (.ifCond .ne 5, 3) := by decide +kernel
theorem dX6_breaks_28 : decode cX6_breaks 28 = .ok (.iload_n 1, 1) := by decide +kernel
theorem dX6_breaks_29 : decode cX6_breaks 29 = .ok (.ireturn, 1) := by decide +kernel
theorem dX6_breaks_30 : decode cX6_breaks 30 = .ok (.iinc 1 1, 3) := by decide +kernel
theorem dX6_breaks_33 : decode cX6_breaks 33 = .ok (.goto (-31), 3) := by decide +kernel
theorem dX6_breaks_36 : decode cX6_breaks 36 = .ok (.bipush (-9), 2) := by decide +kernel
theorem dX6_breaks_38 : decode cX6_breaks 38 = .ok (.ireturn, 1) := by decide +kernel
set_option maxRecDepth 20000 in
theorem ggX6_keepers_X4_statesNamedAt : GoodIn wsX6_keepers wsX4_statesNamedAt := goodIn_r _ [8, 9, 10, 11, 7, 12, 13, 14, 15, 16, 17, 18, 19, 20, 21, 22, 23, 24, 25, 47, 48, 49] (by decide +kernel) (by decide +kernel)
set_option maxRecDepth 20000 in
theorem gX6_keepers_X4_statesNamedAt : GoodIn wsX6_keepers (wsV RX6 187 RX4 yX4_statesNamedAt wsX4_statesNamedAt) := goodIn_app (goodIn_of _ (by decide +kernel)) ggX6_keepers_X4_statesNamedAt
set_option maxRecDepth 20000 in
theorem ggX6_keepers_X6_countKept : GoodIn wsX6_keepers wsX6_countKept := goodIn_r _ [29, 26, 27, 28, 30, 31, 32, 2, 4, 5, 6, 7, 8, 9, 10, 11, 12, 13, 14, 15, 16, 17, 18, 19, 20, 21, 22, 23, 24, 25, 33, 34, 35, 36, 37, 38, 39, 47, 48, 49] (by decide +kernel) (by decide +kernel)
set_option maxRecDepth 20000 in
theorem gX6_keepers_X6_countKept : GoodIn wsX6_keepers (va_wsS RX6 190 yX6_countKept wsX6_countKept) := goodIn_app (goodIn_of _ (by decide +kernel)) ggX6_keepers_X6_countKept
theorem dX6_keepers_0 : decode cX6_keepers 0 = .ok (.iconst 0, 1) := by decide +kernel
theorem dX6_keepers_1 : decode cX6_keepers 1 = .ok (.istore_n 1, 1) := by decide +kernel
theorem dX6_keepers_2 : decode cX6_keepers 2 = .ok (.iconst 0, 1) := by decide +kernel
theorem dX6_keepers_3 : decode cX6_keepers 3 = .ok (.istore_n 2, 1) := by decide +kernel
theorem dX6_keepers_4 : decode cX6_keepers 4 = .ok (.iload_n 2, 1) := by decide +kernel
theorem dX6_keepers_5 : decode cX6_keepers 5 = .ok (.aload_n 0, 1) := by decide +kernel
theorem dX6_keepers_6 : decode cX6_keepers 6 = .ok (.getfield 12, 3) := by decide +kernel
theorem dX6_keepers_9 : decode cX6_keepers 9 = .ok (.getfield 63, 3) := by decide +kernel
theorem dX6_keepers_12 : decode cX6_keepers 12 = .ok (.if_icmp .ge 20, 3) := by decide +kernel
theorem dX6_keepers_15 : decode cX6_keepers 15 = .ok (.iload_n 1, 1) := by decide +kernel
theorem dX6_keepers_16 : decode cX6_keepers 16 = .ok (.aload_n 0, 1) := by decide +kernel
theorem dX6_keepers_17 : decode cX6_keepers 17 = .ok (.getfield 12, 3) := by decide +kernel
theorem dX6_keepers_20 : decode cX6_keepers 20 = .ok (.iload_n 2, 1) := by decide +kernel
theorem dX6_keepers_21 : decode cX6_keepers 21 = .ok (.invokevirtual 187, 3) := by decide +kernel
theorem dX6_keepers_24 : decode cX6_keepers 24 = .ok (.ior, 1) := by decide +kernel
theorem dX6_keepers_25 : decode cX6_keepers 25 = .ok (.istore_n 1, 1) := by decide +kernel
theorem dX6_keepers_26 : decode cX6_keepers 26 = .ok (.iinc 2 1, 3) := by decide +kernel
theorem dX6_keepers_29 : decode cX6_keepers 29 = .ok (.goto (-25), 3) := by decide +kernel
theorem dX6_keepers_32 : decode cX6_keepers 32 = .ok (.aload_n 0, 1) := by decide +kernel
theorem dX6_keepers_33 : decode cX6_keepers 33 = .ok (.getfield 12, 3) := by decide +kernel
theorem dX6_keepers_36 : decode cX6_keepers 36 = .ok (.aload_n 0, 1) := by decide +kernel
theorem dX6_keepers_37 : decode cX6_keepers 37 = .ok (.getfield 46, 3) := by decide +kernel
theorem dX6_keepers_40 : decode cX6_keepers 40 = .ok (.iconst 0, 1) := by decide +kernel
theorem dX6_keepers_41 : decode cX6_keepers 41 = .ok (.iload_n 1, 1) := by decide +kernel
theorem dX6_keepers_42 : decode cX6_keepers 42 = .ok (.invokestatic 190, 3) := by decide +kernel
theorem dX6_keepers_45 : decode cX6_keepers 45 = .ok (.ireturn, 1) := by decide +kernel
set_option maxRecDepth 20000 in
theorem ggX6_wrong_X1_one : GoodIn wsX6_wrong wsX1_one := goodIn_r _ [7] (by decide +kernel) (by decide +kernel)
set_option maxRecDepth 20000 in
theorem gX6_wrong_X1_one : GoodIn wsX6_wrong (va_wsS RX6 194 yX1_one wsX1_one) := goodIn_app (goodIn_of _ (by decide +kernel)) ggX6_wrong_X1_one
set_option maxRecDepth 20000 in
theorem ggX6_wrong_X3_explore : GoodIn wsX6_wrong wsX3_explore := goodIn_r _ [12, 13, 14, 15, 16, 17, 18, 19, 20, 21, 22, 23, 24, 11, 25, 26, 27, 28, 29, 6, 30, 31, 32, 33, 34, 35, 36, 37, 38, 39, 40, 41, 42, 43, 44, 45, 46, 47, 48, 49, 50, 51, 52, 53, 54, 55, 56, 57, 58, 59, 60, 61, 62, 63, 5, 7, 117, 118, 119, 120, 121, 122, 123, 124, 125, 126, 127, 128, 129, 130, 131] (by decide +kernel) (by decide +kernel)
set_option maxRecDepth 20000 in
theorem gX6_wrong_X3_explore : GoodIn wsX6_wrong (wsV RX6 197 RX3 yX3_explore wsX3_explore) := goodIn_app (goodIn_of _ (by decide +kernel)) ggX6_wrong_X3_explore
set_option maxRecDepth 20000 in
theorem ggX6_wrong_X3_judge : GoodIn wsX6_wrong wsX3_judge := goodIn_r _ [67, 16, 68, 26, 69, 70, 71, 6, 72, 32, 33, 34, 73, 74, 75, 11, 76, 77, 78, 79, 80, 15, 81, 82, 83, 84, 17, 117, 118, 119, 120, 121, 122, 123, 124, 125, 126, 127, 128] (by decide +kernel) (by decide +kernel)
set_option maxRecDepth 20000 in
theorem gX6_wrong_X3_judge : GoodIn wsX6_wrong (wsV RX6 201 RX3 yX3_judge wsX3_judge) := goodIn_app (goodIn_of _ (by decide +kernel)) ggX6_wrong_X3_judge
set_option maxRecDepth 20000 in
theorem ggX6_wrong_X3_verdict : GoodIn wsX6_wrong wsX3_verdict := goodIn_r _ [88, 89, 90, 91, 11, 92, 16, 69, 93, 94, 95, 96, 97, 98, 99, 100, 101, 102, 103, 104, 105, 15, 81, 82, 83, 84, 17, 117, 118, 119, 120, 121, 122, 123, 124, 125, 126, 127, 128] (by decide +kernel) (by decide +kernel)
set_option maxRecDepth 20000 in
theorem gX6_wrong_X3_verdict : GoodIn wsX6_wrong (wsV RX6 164 RX3 yX3_verdict wsX3_verdict) := goodIn_app (goodIn_of _ (by decide +kernel)) ggX6_wrong_X3_verdict
set_option maxRecDepth 20000 in
theorem ggX6_wrong_X6_truth : GoodIn wsX6_wrong wsX6_truth := goodIn_r _ [109] (by decide +kernel) (by decide +kernel)
set_option maxRecDepth 20000 in
theorem gX6_wrong_X6_truth : GoodIn wsX6_wrong (va_wsS RX6 205 yX6_truth wsX6_truth) := goodIn_app (goodIn_of _ (by decide +kernel)) ggX6_wrong_X6_truth
theorem dX6_wrong_0 : decode cX6_wrong 0 = .ok (.iload_n 1, 1) := by decide +kernel
theorem dX6_wrong_1 : decode cX6_wrong 1 = .ok (.iconst 2, 1) := by decide +kernel
theorem dX6_wrong_2 : decode cX6_wrong 2 = .ok (.if_icmp .lt 29, 3) := by decide +kernel
theorem dX6_wrong_5 : decode cX6_wrong 5 = .ok (.iload_n 1, 1) := by decide +kernel
theorem dX6_wrong_6 : decode cX6_wrong 6 = .ok (.bipush 6, 2) := by decide +kernel
theorem dX6_wrong_8 : decode cX6_wrong 8 = .ok (.if_icmp .gt 23, 3) := by decide +kernel
theorem dX6_wrong_11 : decode cX6_wrong 11 = .ok (.iload_n 2, 1) := by decide +kernel
theorem dX6_wrong_12 : decode cX6_wrong 12 = .ok (.ifCond .lt 19, 3) := by decide +kernel
theorem dX6_wrong_15 : decode cX6_wrong 15 = .ok (.iload_n 2, 1) := by decide +kernel
theorem dX6_wrong_16 : decode cX6_wrong 16 = .ok (.iconst 2, 1) := by decide +kernel
theorem dX6_wrong_17 : decode cX6_wrong 17 = .ok (.if_icmp .gt 14, 3) := by decide +kernel
theorem dX6_wrong_20 : decode cX6_wrong 20 = .ok (.iload_n 3, 1) := by decide +kernel
theorem dX6_wrong_21 : decode cX6_wrong 21 = .ok (.iconst 1, 1) := by decide +kernel
theorem dX6_wrong_22 : decode cX6_wrong 22 = .ok (.if_icmp .lt 9, 3) := by decide +kernel
theorem dX6_wrong_25 : decode cX6_wrong 25 = .ok (.iload_n 3, 1) := by decide +kernel
theorem dX6_wrong_26 : decode cX6_wrong 26 = .ok (.bipush 6, 2) := by decide +kernel
theorem dX6_wrong_28 : decode cX6_wrong 28 = .ok (.if_icmp .le 6, 3) := by decide +kernel
theorem dX6_wrong_31 : decode cX6_wrong 31 = .ok (.bipush (-2), 2) := by decide +kernel
theorem dX6_wrong_33 : decode cX6_wrong 33 = .ok (.ireturn, 1) := by decide +kernel
theorem dX6_wrong_34 : decode cX6_wrong 34 = .ok (.iconst 0, 1) := by decide +kernel
theorem dX6_wrong_35 : decode cX6_wrong 35 = .ok (.istore 4, 2) := by decide +kernel
theorem dX6_wrong_37 : decode cX6_wrong 37 = .ok (.iload 4, 2) := by decide +kernel
theorem dX6_wrong_39 : decode cX6_wrong 39 = .ok (.iload_n 1, 1) := by decide +kernel
theorem dX6_wrong_40 : decode cX6_wrong 40 = .ok (.if_icmp .gt 69, 3) := by decide +kernel
theorem dX6_wrong_43 : decode cX6_wrong 43 = .ok (.aload_n 0, 1) := by decide +kernel
theorem dX6_wrong_44 : decode cX6_wrong 44 = .ok (.getfield 28, 3) := by decide +kernel
theorem dX6_wrong_47 : decode cX6_wrong 47 = .ok (.aload_n 0, 1) := by decide +kernel
theorem dX6_wrong_48 : decode cX6_wrong 48 = .ok (.getfield 12, 3) := by decide +kernel
theorem dX6_wrong_51 : decode cX6_wrong 51 = .ok (.iconst 0, 1) := by decide +kernel
theorem dX6_wrong_52 : decode cX6_wrong 52 = .ok (.invokestatic 194, 3) := by decide +kernel
theorem dX6_wrong_55 : decode cX6_wrong 55 = .ok (.iload_n 1, 1) := by decide +kernel
theorem dX6_wrong_56 : decode cX6_wrong 56 = .ok (.iload 4, 2) := by decide +kernel
theorem dX6_wrong_58 : decode cX6_wrong 58 = .ok (.isub, 1) := by decide +kernel
theorem dX6_wrong_59 : decode cX6_wrong 59 = .ok (.imul, 1) := by decide +kernel
theorem dX6_wrong_60 : decode cX6_wrong 60 = .ok (.iconst 1, 1) := by decide +kernel
theorem dX6_wrong_61 : decode cX6_wrong 61 = .ok (.invokestatic 194, 3) := by decide +kernel
theorem dX6_wrong_64 : decode cX6_wrong 64 = .ok (.iload 4, 2) := by decide +kernel
theorem dX6_wrong_66 : decode cX6_wrong 66 = .ok (.imul, 1) := by decide +kernel
theorem dX6_wrong_67 : decode cX6_wrong 67 = .ok (.iadd, 1) := by decide +kernel
theorem dX6_wrong_68 : decode cX6_wrong 68 = .ok (.invokevirtual 197, 3) := by decide +kernel
theorem dX6_wrong_71 : decode cX6_wrong 71 = .ok (.aload_n 0, 1) := by decide +kernel
theorem dX6_wrong_72 : decode cX6_wrong 72 = .ok (.getfield 28, 3) := by decide +kernel
theorem dX6_wrong_75 : decode cX6_wrong 75 = .ok (.aload_n 0, 1) := by decide +kernel
theorem dX6_wrong_76 : decode cX6_wrong 76 = .ok (.getfield 39, 3) := by decide +kernel
theorem dX6_wrong_79 : decode cX6_wrong 79 = .ok (.invokevirtual 201, 3) := by decide +kernel
theorem dX6_wrong_82 : decode cX6_wrong 82 = .ok (.aload_n 0, 1) := by decide +kernel
theorem dX6_wrong_83 : decode cX6_wrong 83 = .ok (.getfield 28, 3) := by decide +kernel
theorem dX6_wrong_86 : decode cX6_wrong 86 = .ok (.invokevirtual 164, 3) := by decide +kernel
theorem dX6_wrong_89 : decode cX6_wrong 89 = .ok (.iload_n 1, 1) := by decide +kernel
theorem dX6_wrong_90 : decode cX6_wrong 90 = .ok (.iload 4, 2) := by decide +kernel
theorem dX6_wrong_92 : decode cX6_wrong 92 = .ok (.iload_n 2, 1) := by decide +kernel
theorem dX6_wrong_93 : decode cX6_wrong 93 = .ok (.iload_n 3, 1) := by decide +kernel
theorem dX6_wrong_94 : decode cX6_wrong 94 = .ok (.invokestatic 205, 3) := by decide +kernel
theorem dX6_wrong_97 : decode cX6_wrong 97 = .ok (.if_icmp .eq 6, 3) := by decide +kernel
theorem dX6_wrong_100 : decode cX6_wrong 100 = .ok (.iload 4, 2) := by decide +kernel
theorem dX6_wrong_102 : decode cX6_wrong 102 = .ok (.ireturn, 1) := by decide +kernel
theorem dX6_wrong_103 : decode cX6_wrong 103 = .ok (.iinc 4 1, 3) := by decide +kernel
theorem dX6_wrong_106 : decode cX6_wrong 106 = .ok (.goto (-69), 3) := by decide +kernel
theorem dX6_wrong_109 : decode cX6_wrong 109 = .ok (.bipush (-9), 2) := by decide +kernel
theorem dX6_wrong_111 : decode cX6_wrong 111 = .ok (.ireturn, 1) := by decide +kernel
theorem dX6_many_0 : decode cX6_many 0 = .ok (.iload_n 1, 1) := by decide +kernel
theorem dX6_many_1 : decode cX6_many 1 = .ok (.tableswitch 63 0 3 #[31, 39, 47, 55], 31) := by decide +kernel
theorem dX6_many_32 : decode cX6_many 32 = .ok (.aload_n 0, 1) := by decide +kernel
theorem dX6_many_33 : decode cX6_many 33 = .ok (.getfield 12, 3) := by decide +kernel
theorem dX6_many_36 : decode cX6_many 36 = .ok (.getfield 63, 3) := by decide +kernel
theorem dX6_many_39 : decode cX6_many 39 = .ok (.ireturn, 1) := by decide +kernel
theorem dX6_many_40 : decode cX6_many 40 = .ok (.aload_n 0, 1) := by decide +kernel
theorem dX6_many_41 : decode cX6_many 41 = .ok (.getfield 21, 3) := by decide +kernel
theorem dX6_many_44 : decode cX6_many 44 = .ok (.getfield 109, 3) := by decide +kernel
theorem dX6_many_47 : decode cX6_many 47 = .ok (.ireturn, 1) := by decide +kernel
theorem dX6_many_48 : decode cX6_many 48 = .ok (.aload_n 0, 1) := by decide +kernel
theorem dX6_many_49 : decode cX6_many 49 = .ok (.getfield 21, 3) := by decide +kernel
theorem dX6_many_52 : decode cX6_many 52 = .ok (.getfield 209, 3) := by decide +kernel
theorem dX6_many_55 : decode cX6_many 55 = .ok (.ireturn, 1) := by decide +kernel
theorem dX6_many_56 : decode cX6_many 56 = .ok (.aload_n 0, 1) := by decide +kernel
theorem dX6_many_57 : decode cX6_many 57 = .ok (.getfield 21, 3) := by decide +kernel
theorem dX6_many_60 : decode cX6_many 60 = .ok (.getfield 212, 3) := by decide +kernel
theorem dX6_many_63 : decode cX6_many 63 = .ok (.ireturn, 1) := by decide +kernel
theorem dX6_many_64 : decode cX6_many 64 = .ok (.bipush (-2), 2) := by decide +kernel
theorem dX6_many_66 : decode cX6_many 66 = .ok (.ireturn, 1) := by decide +kernel
theorem dX6_isState_0 : decode cX6_isState 0 = .ok (.iload_n 0, 1) := by decide +kernel
theorem dX6_isState_1 : decode cX6_isState 1 = .ok (.ifCond .lt 13, 3) := by decide +kernel
theorem dX6_isState_4 : decode cX6_isState 4 = .ok (.iload_n 0, 1) := by decide +kernel
theorem dX6_isState_5 : decode cX6_isState 5 = .ok (.bipush 6, 2) := by decide +kernel
theorem dX6_isState_7 : decode cX6_isState 7 = .ok (.if_icmp .ge 7, 3) := by decide +kernel
theorem dX6_isState_10 : decode cX6_isState 10 = .ok (.iconst 1, 1) := by decide +kernel
theorem dX6_isState_11 : decode cX6_isState 11 = .ok (.goto 4, 3) := by decide +kernel
theorem dX6_isState_14 : decode cX6_isState 14 = .ok (.iconst 0, 1) := by decide +kernel
theorem dX6_isState_15 : decode cX6_isState 15 = .ok (.ireturn, 1) := by decide +kernel
set_option maxRecDepth 20000 in
theorem ggX6_explorePresent_X2_configuration : GoodIn wsX6_explorePresent wsX2_configuration := goodIn_r _ [9, 10, 11, 12, 13, 14, 15, 100, 101, 102, 103, 104, 105] (by decide +kernel) (by decide +kernel)
set_option maxRecDepth 20000 in
theorem gX6_explorePresent_X2_configuration : GoodIn wsX6_explorePresent (wsV RX6 139 RX2 yX2_configuration wsX2_configuration) := goodIn_app (goodIn_of _ (by decide +kernel)) ggX6_explorePresent_X2_configuration
set_option maxRecDepth 20000 in
theorem ggX6_explorePresent_X3_explore : GoodIn wsX6_explorePresent wsX3_explore := goodIn_r _ [20, 21, 22, 23, 24, 25, 26, 27, 28, 29, 30, 31, 32, 19, 33, 34, 35, 36, 37, 14, 38, 39, 40, 41, 42, 43, 44, 45, 46, 47, 48, 49, 50, 51, 52, 53, 54, 55, 56, 57, 58, 59, 60, 61, 62, 63, 64, 65, 66, 67, 68, 69, 70, 71, 13, 15, 106, 107, 108, 109, 110, 111, 112, 113, 114, 115, 116, 117, 118, 119, 120] (by decide +kernel) (by decide +kernel)
set_option maxRecDepth 20000 in
theorem gX6_explorePresent_X3_explore : GoodIn wsX6_explorePresent (wsV RX6 197 RX3 yX3_explore wsX3_explore) := goodIn_app (goodIn_of _ (by decide +kernel)) ggX6_explorePresent_X3_explore
set_option maxRecDepth 20000 in
theorem ggX6_explorePresent_X3_judge : GoodIn wsX6_explorePresent wsX3_judge := goodIn_r _ [75, 24, 76, 34, 77, 78, 79, 14, 80, 40, 41, 42, 81, 82, 83, 19, 84, 85, 86, 87, 88, 23, 89, 90, 91, 92, 25, 106, 107, 108, 109, 110, 111, 112, 113, 114, 115, 116, 117] (by decide +kernel) (by decide +kernel)
set_option maxRecDepth 20000 in
theorem gX6_explorePresent_X3_judge : GoodIn wsX6_explorePresent (wsV RX6 201 RX3 yX3_judge wsX3_judge) := goodIn_app (goodIn_of _ (by decide +kernel)) ggX6_explorePresent_X3_judge
theorem dX6_explorePresent_0 : decode cX6_explorePresent 0 = .ok (.aload_n 0, 1) := by decide +kernel
theorem dX6_explorePresent_1 : decode cX6_explorePresent 1 = .ok (.getfield 28, 3) := by decide +kernel
theorem dX6_explorePresent_4 : decode cX6_explorePresent 4 = .ok (.aload_n 0, 1) := by decide +kernel
theorem dX6_explorePresent_5 : decode cX6_explorePresent 5 = .ok (.getfield 12, 3) := by decide +kernel
theorem dX6_explorePresent_8 : decode cX6_explorePresent 8 = .ok (.aload_n 0, 1) := by decide +kernel
theorem dX6_explorePresent_9 : decode cX6_explorePresent 9 = .ok (.getfield 21, 3) := by decide +kernel
theorem dX6_explorePresent_12 : decode cX6_explorePresent 12 = .ok (.invokevirtual 139, 3) := by decide +kernel
theorem dX6_explorePresent_15 : decode cX6_explorePresent 15 = .ok (.invokevirtual 197, 3) := by decide +kernel
theorem dX6_explorePresent_18 : decode cX6_explorePresent 18 = .ok (.aload_n 0, 1) := by decide +kernel
theorem dX6_explorePresent_19 : decode cX6_explorePresent 19 = .ok (.getfield 28, 3) := by decide +kernel
theorem dX6_explorePresent_22 : decode cX6_explorePresent 22 = .ok (.aload_n 0, 1) := by decide +kernel
theorem dX6_explorePresent_23 : decode cX6_explorePresent 23 = .ok (.getfield 39, 3) := by decide +kernel
theorem dX6_explorePresent_26 : decode cX6_explorePresent 26 = .ok (.invokevirtual 201, 3) := by decide +kernel
theorem dX6_explorePresent_29 : decode cX6_explorePresent 29 = .ok (.return_, 1) := by decide +kernel
theorem dX6_commonDivisor_0 : decode cX6_commonDivisor 0 = .ok (.lload_n 0, 1) := by decide +kernel
theorem dX6_commonDivisor_1 : decode cX6_commonDivisor 1 = .ok (.lstore 4, 2) := by decide +kernel
theorem dX6_commonDivisor_3 : decode cX6_commonDivisor 3 = .ok (.lload_n 2, 1) := by decide +kernel
theorem dX6_commonDivisor_4 : decode cX6_commonDivisor 4 = .ok (.lstore 6, 2) := by decide +kernel
theorem dX6_commonDivisor_6 : decode cX6_commonDivisor 6 = .ok (.iconst 0, 1) := by decide +kernel
theorem dX6_commonDivisor_7 : decode cX6_commonDivisor 7 = .ok (.istore 8, 2) := by decide +kernel
theorem dX6_commonDivisor_9 : decode cX6_commonDivisor 9 = .ok (.iload 8, 2) := by decide +kernel
theorem dX6_commonDivisor_11 : decode cX6_commonDivisor 11 = .ok (.sipush 200, 3) := by decide +kernel
theorem dX6_commonDivisor_14 : decode cX6_commonDivisor 14 = .ok (.if_icmp .ge 31, 3) := by decide +kernel
theorem dX6_commonDivisor_17 : decode cX6_commonDivisor 17 = .ok (.lload 6, 2) := by decide +kernel
theorem dX6_commonDivisor_19 : decode cX6_commonDivisor 19 = .ok (.lconst 0, 1) := by decide +kernel
theorem dX6_commonDivisor_20 : decode cX6_commonDivisor 20 = .ok (.lcmp, 1) := by decide +kernel
theorem dX6_commonDivisor_21 : decode cX6_commonDivisor 21 = .ok (.ifCond .eq 24, 3) := by decide +kernel
theorem dX6_commonDivisor_24 : decode cX6_commonDivisor 24 = .ok (.lload 4, 2) := by decide +kernel
theorem dX6_commonDivisor_26 : decode cX6_commonDivisor 26 = .ok (.lload 6, 2) := by decide +kernel
theorem dX6_commonDivisor_28 : decode cX6_commonDivisor 28 = .ok (.lrem, 1) := by decide +kernel
theorem dX6_commonDivisor_29 : decode cX6_commonDivisor 29 = .ok (.lstore 9, 2) := by decide +kernel
theorem dX6_commonDivisor_31 : decode cX6_commonDivisor 31 = .ok (.lload 6, 2) := by decide +kernel
theorem dX6_commonDivisor_33 : decode cX6_commonDivisor 33 = .ok (.lstore 4, 2) := by decide +kernel
theorem dX6_commonDivisor_35 : decode cX6_commonDivisor 35 = .ok (.lload 9, 2) := by decide +kernel
theorem dX6_commonDivisor_37 : decode cX6_commonDivisor 37 = .ok (.lstore 6, 2) := by decide +kernel
theorem dX6_commonDivisor_39 : decode cX6_commonDivisor 39 = .ok (.iinc 8 1, 3) := by decide +kernel
theorem dX6_commonDivisor_42 : decode cX6_commonDivisor 42 = .ok (.goto (-33), 3) := by decide +kernel
theorem dX6_commonDivisor_45 : decode cX6_commonDivisor 45 = .ok (.lload 4, 2) := by decide +kernel
theorem dX6_commonDivisor_47 : decode cX6_commonDivisor 47 = .ok (.lreturn, 1) := by decide +kernel
set_option maxRecDepth 20000 in
theorem ggX6_isKept_X4_twoAt : GoodIn wsX6_isKept wsX4_twoAt := goodIn_r _ [5, 6, 19, 20, 21] (by decide +kernel) (by decide +kernel)
set_option maxRecDepth 20000 in
theorem gX6_isKept_X4_twoAt : GoodIn wsX6_isKept (wsV RX6 87 RX4 yX4_twoAt wsX4_twoAt) := goodIn_app (goodIn_of _ (by decide +kernel)) ggX6_isKept_X4_twoAt
set_option maxRecDepth 20000 in
theorem ggX6_isKept_X4_outcomeAt : GoodIn wsX6_isKept wsX4_outcomeAt := goodIn_r _ [10, 11, 6, 19, 20, 21] (by decide +kernel) (by decide +kernel)
set_option maxRecDepth 20000 in
theorem gX6_isKept_X4_outcomeAt : GoodIn wsX6_isKept (wsV RX6 90 RX4 yX4_outcomeAt wsX4_outcomeAt) := goodIn_app (goodIn_of _ (by decide +kernel)) ggX6_isKept_X4_outcomeAt
set_option maxRecDepth 20000 in
theorem ggX6_isKept_X5_first : GoodIn wsX6_isKept wsX5_first := goodIn_r _ [15] (by decide +kernel) (by decide +kernel)
set_option maxRecDepth 20000 in
theorem gX6_isKept_X5_first : GoodIn wsX6_isKept (va_wsS RX6 93 yX5_first wsX5_first) := goodIn_app (goodIn_of _ (by decide +kernel)) ggX6_isKept_X5_first
set_option maxRecDepth 20000 in
theorem ggX6_isKept_X5_second : GoodIn wsX6_isKept wsX5_second := goodIn_r _ [18] (by decide +kernel) (by decide +kernel)
set_option maxRecDepth 20000 in
theorem gX6_isKept_X5_second : GoodIn wsX6_isKept (va_wsS RX6 96 yX5_second wsX5_second) := goodIn_app (goodIn_of _ (by decide +kernel)) ggX6_isKept_X5_second
theorem dX6_isKept_0 : decode cX6_isKept 0 = .ok (.aload_n 0, 1) := by decide +kernel
theorem dX6_isKept_1 : decode cX6_isKept 1 = .ok (.iload_n 1, 1) := by decide +kernel
theorem dX6_isKept_2 : decode cX6_isKept 2 = .ok (.invokevirtual 87, 3) := by decide +kernel
theorem dX6_isKept_5 : decode cX6_isKept 5 = .ok (.istore_n 3, 1) := by decide +kernel
theorem dX6_isKept_6 : decode cX6_isKept 6 = .ok (.aload_n 0, 1) := by decide +kernel
theorem dX6_isKept_7 : decode cX6_isKept 7 = .ok (.iload_n 1, 1) := by decide +kernel
theorem dX6_isKept_8 : decode cX6_isKept 8 = .ok (.invokevirtual 90, 3) := by decide +kernel
theorem dX6_isKept_11 : decode cX6_isKept 11 = .ok (.istore 4, 2) := by decide +kernel
theorem dX6_isKept_13 : decode cX6_isKept 13 = .ok (.aload_n 2, 1) := by decide +kernel
theorem dX6_isKept_14 : decode cX6_isKept 14 = .ok (.iload_n 3, 1) := by decide +kernel
theorem dX6_isKept_15 : decode cX6_isKept 15 = .ok (.invokestatic 93, 3) := by decide +kernel
theorem dX6_isKept_18 : decode cX6_isKept 18 = .ok (.iaload, 1) := by decide +kernel
theorem dX6_isKept_19 : decode cX6_isKept 19 = .ok (.aload_n 2, 1) := by decide +kernel
theorem dX6_isKept_20 : decode cX6_isKept 20 = .ok (.iload_n 3, 1) := by decide +kernel
theorem dX6_isKept_21 : decode cX6_isKept 21 = .ok (.invokestatic 96, 3) := by decide +kernel
theorem dX6_isKept_24 : decode cX6_isKept 24 = .ok (.iaload, 1) := by decide +kernel
theorem dX6_isKept_25 : decode cX6_isKept 25 = .ok (.iadd, 1) := by decide +kernel
theorem dX6_isKept_26 : decode cX6_isKept 26 = .ok (.aload_n 2, 1) := by decide +kernel
theorem dX6_isKept_27 : decode cX6_isKept 27 = .ok (.iload 4, 2) := by decide +kernel
theorem dX6_isKept_29 : decode cX6_isKept 29 = .ok (.invokestatic 93, 3) := by decide +kernel
theorem dX6_isKept_32 : decode cX6_isKept 32 = .ok (.iaload, 1) := by decide +kernel
theorem dX6_isKept_33 : decode cX6_isKept 33 = .ok (.aload_n 2, 1) := by decide +kernel
theorem dX6_isKept_34 : decode cX6_isKept 34 = .ok (.iload 4, 2) := by decide +kernel
theorem dX6_isKept_36 : decode cX6_isKept 36 = .ok (.invokestatic 96, 3) := by decide +kernel
theorem dX6_isKept_39 : decode cX6_isKept 39 = .ok (.iaload, 1) := by decide +kernel
theorem dX6_isKept_40 : decode cX6_isKept 40 = .ok (.iadd, 1) := by decide +kernel
theorem dX6_isKept_41 : decode cX6_isKept 41 = .ok (.if_icmp .ne 7, 3) := by decide +kernel
theorem dX6_isKept_44 : decode cX6_isKept 44 = .ok (.iconst 1, 1) := by decide +kernel
theorem dX6_isKept_45 : decode cX6_isKept 45 = .ok (.goto 4, 3) := by decide +kernel
theorem dX6_isKept_48 : decode cX6_isKept 48 = .ok (.iconst 0, 1) := by decide +kernel
theorem dX6_isKept_49 : decode cX6_isKept 49 = .ok (.ireturn, 1) := by decide +kernel
set_option maxRecDepth 20000 in
theorem ggX6_countKept_X6_countKept : GoodIn wsX6_countKept wsX6_countKept := goodIn_r _ [0, 1, 2, 3, 4, 5, 6, 7, 8, 9, 10, 11, 12, 13, 14, 15, 16, 17, 18, 19, 20, 21, 22, 23, 24, 25, 26, 27, 28, 29, 30, 31, 32, 33, 34, 35, 36, 37, 38, 39] (by decide +kernel) (by decide +kernel)
set_option maxRecDepth 20000 in
theorem gX6_countKept_X6_countKept : GoodIn wsX6_countKept (va_wsS RX6 190 yX6_countKept wsX6_countKept) := goodIn_app (goodIn_of _ (by decide +kernel)) ggX6_countKept_X6_countKept
set_option maxRecDepth 20000 in
theorem ggX6_countKept_X6_isKeptSoFar : GoodIn wsX6_countKept wsX6_isKeptSoFar := goodIn_r _ [6, 7, 8, 9, 10, 11, 12, 13, 14, 15, 16, 17, 18, 19, 20, 21, 22, 23, 24, 25, 26, 27, 28, 29, 30, 31, 3, 32, 33, 34, 35, 36, 37, 38, 39] (by decide +kernel) (by decide +kernel)
set_option maxRecDepth 20000 in
theorem gX6_countKept_X6_isKeptSoFar : GoodIn wsX6_countKept (va_wsS RX6 215 yX6_isKeptSoFar wsX6_isKeptSoFar) := goodIn_app (goodIn_of _ (by decide +kernel)) ggX6_countKept_X6_isKeptSoFar
theorem dX6_countKept_0 : decode cX6_countKept 0 = .ok (.iload_n 2, 1) := by decide +kernel
theorem dX6_countKept_1 : decode cX6_countKept 1 = .ok (.bipush 6, 2) := by decide +kernel
theorem dX6_countKept_3 : decode cX6_countKept 3 = .ok (.if_icmp .lt 5, 3) := by decide +kernel
theorem dX6_countKept_6 : decode cX6_countKept 6 = .ok (.iconst 1, 1) := by decide +kernel
theorem dX6_countKept_7 : decode cX6_countKept 7 = .ok (.ireturn, 1) := by decide +kernel
theorem dX6_countKept_8 : decode cX6_countKept 8 = .ok (.iload_n 3, 1) := by decide +kernel
theorem dX6_countKept_9 : decode cX6_countKept 9 = .ok (.iload_n 2, 1) := by decide +kernel
theorem dX6_countKept_10 : decode cX6_countKept 10 = .ok (.ishr, 1) := by decide +kernel
theorem dX6_countKept_11 : decode cX6_countKept 11 = .ok (.iconst 1, 1) := by decide +kernel
theorem dX6_countKept_12 : decode cX6_countKept 12 = .ok (.iand, 1) := by decide +kernel
theorem dX6_countKept_13 : decode cX6_countKept 13 = .ok (.ifCond .ne 15, 3) := by decide +kernel
theorem dX6_countKept_16 : decode cX6_countKept 16 = .ok (.iconst 5, 1) := by decide +kernel
theorem dX6_countKept_17 : decode cX6_countKept 17 = .ok (.aload_n 0, 1) := by decide +kernel
theorem dX6_countKept_18 : decode cX6_countKept 18 = .ok (.aload_n 1, 1) := by decide +kernel
theorem dX6_countKept_19 : decode cX6_countKept 19 = .ok (.iload_n 2, 1) := by decide +kernel
theorem dX6_countKept_20 : decode cX6_countKept 20 = .ok (.iconst 1, 1) := by decide +kernel
theorem dX6_countKept_21 : decode cX6_countKept 21 = .ok (.iadd, 1) := by decide +kernel
theorem dX6_countKept_22 : decode cX6_countKept 22 = .ok (.iload_n 3, 1) := by decide +kernel
theorem dX6_countKept_23 : decode cX6_countKept 23 = .ok (.invokestatic 190, 3) := by decide +kernel
theorem dX6_countKept_26 : decode cX6_countKept 26 = .ok (.imul, 1) := by decide +kernel
theorem dX6_countKept_27 : decode cX6_countKept 27 = .ok (.ireturn, 1) := by decide +kernel
theorem dX6_countKept_28 : decode cX6_countKept 28 = .ok (.iconst 0, 1) := by decide +kernel
theorem dX6_countKept_29 : decode cX6_countKept 29 = .ok (.istore 4, 2) := by decide +kernel
theorem dX6_countKept_31 : decode cX6_countKept 31 = .ok (.bipush (-2), 2) := by decide +kernel
theorem dX6_countKept_33 : decode cX6_countKept 33 = .ok (.istore 5, 2) := by decide +kernel
theorem dX6_countKept_35 : decode cX6_countKept 35 = .ok (.iload 5, 2) := by decide +kernel
theorem dX6_countKept_37 : decode cX6_countKept 37 = .ok (.iconst 2, 1) := by decide +kernel
theorem dX6_countKept_38 : decode cX6_countKept 38 = .ok (.if_icmp .gt 37, 3) := by decide +kernel
theorem dX6_countKept_41 : decode cX6_countKept 41 = .ok (.aload_n 1, 1) := by decide +kernel
theorem dX6_countKept_42 : decode cX6_countKept 42 = .ok (.iload_n 2, 1) := by decide +kernel
theorem dX6_countKept_43 : decode cX6_countKept 43 = .ok (.iload 5, 2) := by decide +kernel
theorem dX6_countKept_45 : decode cX6_countKept 45 = .ok (.iastore, 1) := by decide +kernel
theorem dX6_countKept_46 : decode cX6_countKept 46 = .ok (.aload_n 0, 1) := by decide +kernel
theorem dX6_countKept_47 : decode cX6_countKept 47 = .ok (.aload_n 1, 1) := by decide +kernel
theorem dX6_countKept_48 : decode cX6_countKept 48 = .ok (.iload_n 2, 1) := by decide +kernel
theorem dX6_countKept_49 : decode cX6_countKept 49 = .ok (.invokestatic 215, 3) := by decide +kernel
theorem dX6_countKept_52 : decode cX6_countKept 52 = .ok (.ifCond .eq 17, 3) := by decide +kernel
theorem dX6_countKept_55 : decode cX6_countKept 55 = .ok (.iload 4, 2) := by decide +kernel
theorem dX6_countKept_57 : decode cX6_countKept 57 = .ok (.aload_n 0, 1) := by decide +kernel
theorem dX6_countKept_58 : decode cX6_countKept 58 = .ok (.aload_n 1, 1) := by decide +kernel
theorem dX6_countKept_59 : decode cX6_countKept 59 = .ok (.iload_n 2, 1) := by decide +kernel
theorem dX6_countKept_60 : decode cX6_countKept 60 = .ok (.iconst 1, 1) := by decide +kernel
theorem dX6_countKept_61 : decode cX6_countKept 61 = .ok (.iadd, 1) := by decide +kernel
theorem dX6_countKept_62 : decode cX6_countKept 62 = .ok (.iload_n 3, 1) := by decide +kernel
theorem dX6_countKept_63 : decode cX6_countKept 63 = .ok (.invokestatic 190, 3) := by decide +kernel
theorem dX6_countKept_66 : decode cX6_countKept 66 = .ok (.iadd, 1) := by decide +kernel
theorem dX6_countKept_67 : decode cX6_countKept 67 = .ok (.istore 4, 2) := by decide +kernel
theorem dX6_countKept_69 : decode cX6_countKept 69 = .ok (.iinc 5 1, 3) := by decide +kernel
theorem dX6_countKept_72 : decode cX6_countKept 72 = .ok (.goto (-37), 3) := by decide +kernel
theorem dX6_countKept_75 : decode cX6_countKept 75 = .ok (.iload 4, 2) := by decide +kernel
theorem dX6_countKept_77 : decode cX6_countKept 77 = .ok (.ireturn, 1) := by decide +kernel
set_option maxRecDepth 20000 in
theorem ggX6_isKeptSoFar_X4_statesNamedAt : GoodIn wsX6_isKeptSoFar wsX4_statesNamedAt := goodIn_r _ [6, 7, 8, 9, 5, 10, 11, 12, 13, 14, 15, 16, 17, 18, 19, 20, 21, 22, 23, 32, 33, 34] (by decide +kernel) (by decide +kernel)
set_option maxRecDepth 20000 in
theorem gX6_isKeptSoFar_X4_statesNamedAt : GoodIn wsX6_isKeptSoFar (wsV RX6 187 RX4 yX4_statesNamedAt wsX4_statesNamedAt) := goodIn_app (goodIn_of _ (by decide +kernel)) ggX6_isKeptSoFar_X4_statesNamedAt
set_option maxRecDepth 20000 in
theorem ggX6_isKeptSoFar_X6_isKept : GoodIn wsX6_isKeptSoFar wsX6_isKept := goodIn_r _ [27, 28, 8, 9, 5, 10, 11, 29, 13, 14, 15, 16, 30, 18, 19, 20, 31, 22, 23, 32, 33, 34] (by decide +kernel) (by decide +kernel)
set_option maxRecDepth 20000 in
theorem gX6_isKeptSoFar_X6_isKept : GoodIn wsX6_isKeptSoFar (va_wsS RX6 183 yX6_isKept wsX6_isKept) := goodIn_app (goodIn_of _ (by decide +kernel)) ggX6_isKeptSoFar_X6_isKept
theorem dX6_isKeptSoFar_0 : decode cX6_isKeptSoFar 0 = .ok (.iconst 0, 1) := by decide +kernel
theorem dX6_isKeptSoFar_1 : decode cX6_isKeptSoFar 1 = .ok (.istore_n 3, 1) := by decide +kernel
theorem dX6_isKeptSoFar_2 : decode cX6_isKeptSoFar 2 = .ok (.iload_n 3, 1) := by decide +kernel
theorem dX6_isKeptSoFar_3 : decode cX6_isKeptSoFar 3 = .ok (.aload_n 0, 1) := by decide +kernel
theorem dX6_isKeptSoFar_4 : decode cX6_isKeptSoFar 4 = .ok (.getfield 63, 3) := by decide +kernel
theorem dX6_isKeptSoFar_7 : decode cX6_isKeptSoFar 7 = .ok (.if_icmp .ge 31, 3) := by decide +kernel
theorem dX6_isKeptSoFar_10 : decode cX6_isKeptSoFar 10 = .ok (.aload_n 0, 1) := by decide +kernel
theorem dX6_isKeptSoFar_11 : decode cX6_isKeptSoFar 11 = .ok (.iload_n 3, 1) := by decide +kernel
theorem dX6_isKeptSoFar_12 : decode cX6_isKeptSoFar 12 = .ok (.invokevirtual 187, 3) := by decide +kernel
theorem dX6_isKeptSoFar_15 : decode cX6_isKeptSoFar 15 = .ok (.iload_n 2, 1) := by decide +kernel
theorem dX6_isKeptSoFar_16 : decode cX6_isKeptSoFar 16 = .ok (.ishr, 1) := by decide +kernel
theorem dX6_isKeptSoFar_17 : decode cX6_isKeptSoFar 17 = .ok (.iconst 1, 1) := by decide +kernel
theorem dX6_isKeptSoFar_18 : decode cX6_isKeptSoFar 18 = .ok (.if_icmp .ne 14, 3) := by decide +kernel
theorem dX6_isKeptSoFar_21 : decode cX6_isKeptSoFar 21 = .ok (.aload_n 0, 1) := by decide +kernel
theorem dX6_isKeptSoFar_22 : decode cX6_isKeptSoFar 22 = .ok (.iload_n 3, 1) := by decide +kernel
theorem dX6_isKeptSoFar_23 : decode cX6_isKeptSoFar 23 = .ok (.aload_n 1, 1) := by decide +kernel
theorem dX6_isKeptSoFar_24 : decode cX6_isKeptSoFar 24 = .ok (.invokestatic 183, 3) := by decide +kernel
theorem dX6_isKeptSoFar_27 : decode cX6_isKeptSoFar 27 = .ok (.ifCond .ne 5, 3) := by decide +kernel
theorem dX6_isKeptSoFar_30 : decode cX6_isKeptSoFar 30 = .ok (.iconst 0, 1) := by decide +kernel
theorem dX6_isKeptSoFar_31 : decode cX6_isKeptSoFar 31 = .ok (.ireturn, 1) := by decide +kernel
theorem dX6_isKeptSoFar_32 : decode cX6_isKeptSoFar 32 = .ok (.iinc 3 1, 3) := by decide +kernel
theorem dX6_isKeptSoFar_35 : decode cX6_isKeptSoFar 35 = .ok (.goto (-33), 3) := by decide +kernel
theorem dX6_isKeptSoFar_38 : decode cX6_isKeptSoFar 38 = .ok (.iconst 1, 1) := by decide +kernel
theorem dX6_isKeptSoFar_39 : decode cX6_isKeptSoFar 39 = .ok (.ireturn, 1) := by decide +kernel
theorem dX6_truth_0 : decode cX6_truth 0 = .ok (.iload_n 2, 1) := by decide +kernel
theorem dX6_truth_1 : decode cX6_truth 1 = .ok (.ifCond .ne 27, 3) := by decide +kernel
theorem dX6_truth_4 : decode cX6_truth 4 = .ok (.iload_n 1, 1) := by decide +kernel
theorem dX6_truth_5 : decode cX6_truth 5 = .ok (.iload_n 0, 1) := by decide +kernel
theorem dX6_truth_6 : decode cX6_truth 6 = .ok (.iload_n 1, 1) := by decide +kernel
theorem dX6_truth_7 : decode cX6_truth 7 = .ok (.isub, 1) := by decide +kernel
theorem dX6_truth_8 : decode cX6_truth 8 = .ok (.if_icmp .le 7, 3) := by decide +kernel
theorem dX6_truth_11 : decode cX6_truth 11 = .ok (.iconst 1, 1) := by decide +kernel
theorem dX6_truth_12 : decode cX6_truth 12 = .ok (.goto 15, 3) := by decide +kernel
theorem dX6_truth_15 : decode cX6_truth 15 = .ok (.iload_n 1, 1) := by decide +kernel
theorem dX6_truth_16 : decode cX6_truth 16 = .ok (.iload_n 0, 1) := by decide +kernel
theorem dX6_truth_17 : decode cX6_truth 17 = .ok (.iload_n 1, 1) := by decide +kernel
theorem dX6_truth_18 : decode cX6_truth 18 = .ok (.isub, 1) := by decide +kernel
theorem dX6_truth_19 : decode cX6_truth 19 = .ok (.if_icmp .ge 7, 3) := by decide +kernel
theorem dX6_truth_22 : decode cX6_truth 22 = .ok (.iconst 0, 1) := by decide +kernel
theorem dX6_truth_23 : decode cX6_truth 23 = .ok (.goto 4, 3) := by decide +kernel
theorem dX6_truth_26 : decode cX6_truth 26 = .ok (.iconst 2, 1) := by decide +kernel
theorem dX6_truth_27 : decode cX6_truth 27 = .ok (.ireturn, 1) := by decide +kernel
theorem dX6_truth_28 : decode cX6_truth 28 = .ok (.iload_n 2, 1) := by decide +kernel
theorem dX6_truth_29 : decode cX6_truth 29 = .ok (.iconst 1, 1) := by decide +kernel
theorem dX6_truth_30 : decode cX6_truth 30 = .ok (.if_icmp .ne 14, 3) := by decide +kernel
theorem dX6_truth_33 : decode cX6_truth 33 = .ok (.iload_n 1, 1) := by decide +kernel
theorem dX6_truth_34 : decode cX6_truth 34 = .ok (.iload_n 3, 1) := by decide +kernel
theorem dX6_truth_35 : decode cX6_truth 35 = .ok (.if_icmp .lt 7, 3) := by decide +kernel
theorem dX6_truth_38 : decode cX6_truth 38 = .ok (.iconst 1, 1) := by decide +kernel
theorem dX6_truth_39 : decode cX6_truth 39 = .ok (.goto 4, 3) := by decide +kernel
theorem dX6_truth_42 : decode cX6_truth 42 = .ok (.iconst 0, 1) := by decide +kernel
theorem dX6_truth_43 : decode cX6_truth 43 = .ok (.ireturn, 1) := by decide +kernel
theorem dX6_truth_44 : decode cX6_truth 44 = .ok (.iload_n 3, 1) := by decide +kernel
theorem dX6_truth_45 : decode cX6_truth 45 = .ok (.ifCond .le 13, 3) := by decide +kernel
theorem dX6_truth_48 : decode cX6_truth 48 = .ok (.iload_n 1, 1) := by decide +kernel
theorem dX6_truth_49 : decode cX6_truth 49 = .ok (.iload_n 3, 1) := by decide +kernel
theorem dX6_truth_50 : decode cX6_truth 50 = .ok (.irem, 1) := by decide +kernel
theorem dX6_truth_51 : decode cX6_truth 51 = .ok (.ifCond .ne 7, 3) := by decide +kernel
theorem dX6_truth_54 : decode cX6_truth 54 = .ok (.iconst 1, 1) := by decide +kernel
theorem dX6_truth_55 : decode cX6_truth 55 = .ok (.goto 4, 3) := by decide +kernel
theorem dX6_truth_58 : decode cX6_truth 58 = .ok (.iconst 0, 1) := by decide +kernel
theorem dX6_truth_59 : decode cX6_truth 59 = .ok (.ireturn, 1) := by decide +kernel
