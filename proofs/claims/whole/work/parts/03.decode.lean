theorem dX10_bounds_7 : decode cX10_bounds 7 = .ok (.astore 4, 2) := by decide +kernel
theorem dX10_bounds_9 : decode cX10_bounds 9 = .ok (.aload 4, 2) := by decide +kernel
theorem dX10_bounds_11 : decode cX10_bounds 11 = .ok (.iload_n 1, 1) := by decide +kernel
theorem dX10_bounds_12 : decode cX10_bounds 12 = .ok (.invokevirtual 83, 3) := by decide +kernel
theorem dX10_bounds_15 : decode cX10_bounds 15 = .ok (.ifCond .eq 22, 3) := by decide +kernel
theorem dX10_bounds_18 : decode cX10_bounds 18 = .ok (.iload_n 3, 1) := by decide +kernel
theorem dX10_bounds_19 : decode cX10_bounds 19 = .ok (.iconst 0, 1) := by decide +kernel
theorem dX10_bounds_20 : decode cX10_bounds 20 = .ok (.bipush 60, 2) := by decide +kernel
theorem dX10_bounds_22 : decode cX10_bounds 22 = .ok (.invokestatic 58, 3) := by decide +kernel
theorem dX10_bounds_25 : decode cX10_bounds 25 = .ok (.ifCond .eq 12, 3) := by decide +kernel
theorem dX10_bounds_28 : decode cX10_bounds 28 = .ok (.iload_n 2, 1) := by decide +kernel
theorem dX10_bounds_29 : decode cX10_bounds 29 = .ok (.iconst 0, 1) := by decide +kernel
theorem dX10_bounds_30 : decode cX10_bounds 30 = .ok (.iload_n 3, 1) := by decide +kernel
theorem dX10_bounds_31 : decode cX10_bounds 31 = .ok (.invokestatic 58, 3) := by decide +kernel
theorem dX10_bounds_34 : decode cX10_bounds 34 = .ok (.ifCond .ne 6, 3) := by decide +kernel
theorem dX10_bounds_37 : decode cX10_bounds 37 = .ok (.ldc 78, 2) := by decide +kernel
theorem dX10_bounds_39 : decode cX10_bounds 39 = .ok (.ireturn, 1) := by decide +kernel
theorem dX10_bounds_40 : decode cX10_bounds 40 = .ok (.aload 4, 2) := by decide +kernel
theorem dX10_bounds_42 : decode cX10_bounds 42 = .ok (.getfield 86, 3) := by decide +kernel
theorem dX10_bounds_45 : decode cX10_bounds 45 = .ok (.iload_n 1, 1) := by decide +kernel
theorem dX10_bounds_46 : decode cX10_bounds 46 = .ok (.iaload, 1) := by decide +kernel
theorem dX10_bounds_47 : decode cX10_bounds 47 = .ok (.istore 5, 2) := by decide +kernel
theorem dX10_bounds_49 : decode cX10_bounds 49 = .ok (.iload 5, 2) := by decide +kernel
theorem dX10_bounds_51 : decode cX10_bounds 51 = .ok (.iconst 2, 1) := by decide +kernel
theorem dX10_bounds_52 : decode cX10_bounds 52 = .ok (.if_icmp .eq 16, 3) := by decide +kernel
theorem dX10_bounds_55 : decode cX10_bounds 55 = .ok (.iload 5, 2) := by decide +kernel
theorem dX10_bounds_57 : decode cX10_bounds 57 = .ok (.iconst 3, 1) := by decide +kernel
theorem dX10_bounds_58 : decode cX10_bounds 58 = .ok (.if_icmp .eq 10, 3) := by decide +kernel
theorem dX10_bounds_61 : decode cX10_bounds 61 = .ok (.aload_n 0, 1) := by decide +kernel
theorem dX10_bounds_62 : decode cX10_bounds 62 = .ok (.ldc 90, 2) := by decide +kernel
theorem dX10_bounds_64 : decode cX10_bounds 64 = .ok (.invokevirtual 91, 3) := by decide +kernel
theorem dX10_bounds_67 : decode cX10_bounds 67 = .ok (.ireturn, 1) := by decide +kernel
theorem dX10_bounds_68 : decode cX10_bounds 68 = .ok (.iload 5, 2) := by decide +kernel
theorem dX10_bounds_70 : decode cX10_bounds 70 = .ok (.iconst 2, 1) := by decide +kernel
theorem dX10_bounds_71 : decode cX10_bounds 71 = .ok (.if_icmp .ne 10, 3) := by decide +kernel
theorem dX10_bounds_74 : decode cX10_bounds 74 = .ok (.iload_n 2, 1) := by decide +kernel
theorem dX10_bounds_75 : decode cX10_bounds 75 = .ok (.ifCond .eq 6, 3) := by decide +kernel
theorem dX10_bounds_78 : decode cX10_bounds 78 = .ok (.ldc 78, 2) := by decide +kernel
theorem dX10_bounds_80 : decode cX10_bounds 80 = .ok (.ireturn, 1) := by decide +kernel
theorem dX10_bounds_81 : decode cX10_bounds 81 = .ok (.aload 4, 2) := by decide +kernel
theorem dX10_bounds_83 : decode cX10_bounds 83 = .ok (.getfield 95, 3) := by decide +kernel
theorem dX10_bounds_86 : decode cX10_bounds 86 = .ok (.iload_n 1, 1) := by decide +kernel
theorem dX10_bounds_87 : decode cX10_bounds 87 = .ok (.iload_n 2, 1) := by decide +kernel
theorem dX10_bounds_88 : decode cX10_bounds 88 = .ok (.iastore, 1) := by decide +kernel
theorem dX10_bounds_89 : decode cX10_bounds 89 = .ok (.aload 4, 2) := by decide +kernel
theorem dX10_bounds_91 : decode cX10_bounds 91 = .ok (.getfield 98, 3) := by decide +kernel
theorem dX10_bounds_94 : decode cX10_bounds 94 = .ok (.iload_n 1, 1) := by decide +kernel
theorem dX10_bounds_95 : decode cX10_bounds 95 = .ok (.iload_n 3, 1) := by decide +kernel
theorem dX10_bounds_96 : decode cX10_bounds 96 = .ok (.iastore, 1) := by decide +kernel
theorem dX10_bounds_97 : decode cX10_bounds 97 = .ok (.iconst 1, 1) := by decide +kernel
theorem dX10_bounds_98 : decode cX10_bounds 98 = .ok (.ireturn, 1) := by decide +kernel
set_option maxRecDepth 20000 in
theorem ggX10_guards_X10_isFrom : GoodIn wsX10_guards wsX10_isFrom := goodIn_r _ [8] (by decide +kernel) (by decide +kernel)
set_option maxRecDepth 20000 in
theorem gX10_guards_X10_isFrom : GoodIn wsX10_guards (va_wsS RX10 58 yX10_isFrom wsX10_isFrom) := goodIn_app (goodIn_of _ (by decide +kernel)) ggX10_guards_X10_isFrom
theorem dX10_guards_0 : decode cX10_guards 0 = .ok (.iload_n 1, 1) := by decide +kernel
theorem dX10_guards_1 : decode cX10_guards 1 = .ok (.iconst 0, 1) := by decide +kernel
theorem dX10_guards_2 : decode cX10_guards 2 = .ok (.bipush 10, 2) := by decide +kernel
theorem dX10_guards_4 : decode cX10_guards 4 = .ok (.invokestatic 58, 3) := by decide +kernel
theorem dX10_guards_7 : decode cX10_guards 7 = .ok (.ifCond .ne 6, 3) := by decide +kernel
theorem dX10_guards_10 : decode cX10_guards 10 = .ok (.ldc 78, 2) := by decide +kernel
theorem dX10_guards_12 : decode cX10_guards 12 = .ok (.ireturn, 1) := by decide +kernel
theorem dX10_guards_13 : decode cX10_guards 13 = .ok (.aload_n 0, 1) := by decide +kernel
theorem dX10_guards_14 : decode cX10_guards 14 = .ok (.getfield 10, 3) := by decide +kernel
theorem dX10_guards_17 : decode cX10_guards 17 = .ok (.getfield 69, 3) := by decide +kernel
theorem dX10_guards_20 : decode cX10_guards 20 = .ok (.getfield 101, 3) := by decide +kernel
theorem dX10_guards_23 : decode cX10_guards 23 = .ok (.istore_n 2, 1) := by decide +kernel
theorem dX10_guards_24 : decode cX10_guards 24 = .ok (.aload_n 0, 1) := by decide +kernel
theorem dX10_guards_25 : decode cX10_guards 25 = .ok (.getfield 10, 3) := by decide +kernel
theorem dX10_guards_28 : decode cX10_guards 28 = .ok (.getfield 69, 3) := by decide +kernel
theorem dX10_guards_31 : decode cX10_guards 31 = .ok (.iload_n 1, 1) := by decide +kernel
theorem dX10_guards_32 : decode cX10_guards 32 = .ok (.putfield 101, 3) := by decide +kernel
theorem dX10_guards_35 : decode cX10_guards 35 = .ok (.iload_n 2, 1) := by decide +kernel
theorem dX10_guards_36 : decode cX10_guards 36 = .ok (.ireturn, 1) := by decide +kernel
set_option maxRecDepth 20000 in
theorem ggX10_of_X8_has : GoodIn wsX10_of wsX8_has := goodIn_r _ [16, 17, 18, 19, 20, 35, 36, 37, 38, 39, 40, 41, 42, 43, 44] (by decide +kernel) (by decide +kernel)
set_option maxRecDepth 20000 in
theorem gX10_of_X8_has : GoodIn wsX10_of (wsV RX10 83 RX8 yX8_has wsX8_has) := goodIn_app (goodIn_of _ (by decide +kernel)) ggX10_of_X8_has
theorem dX10_of_0 : decode cX10_of 0 = .ok (.aload_n 0, 1) := by decide +kernel
theorem dX10_of_1 : decode cX10_of 1 = .ok (.getfield 10, 3) := by decide +kernel
theorem dX10_of_4 : decode cX10_of 4 = .ok (.getfield 69, 3) := by decide +kernel
theorem dX10_of_7 : decode cX10_of 7 = .ok (.astore_n 3, 1) := by decide +kernel
theorem dX10_of_8 : decode cX10_of 8 = .ok (.aload_n 3, 1) := by decide +kernel
theorem dX10_of_9 : decode cX10_of 9 = .ok (.iload_n 1, 1) := by decide +kernel
theorem dX10_of_10 : decode cX10_of 10 = .ok (.invokevirtual 83, 3) := by decide +kernel
theorem dX10_of_13 : decode cX10_of 13 = .ok (.ifCond .ne 6, 3) := by decide +kernel
theorem dX10_of_16 : decode cX10_of 16 = .ok (.ldc 78, 2) := by decide +kernel
theorem dX10_of_18 : decode cX10_of 18 = .ok (.ireturn, 1) := by decide +kernel
theorem dX10_of_19 : decode cX10_of 19 = .ok (.iload_n 2, 1) := by decide +kernel
theorem dX10_of_20 : decode cX10_of 20 = .ok (.tableswitch 104 0 7 #[48, 55, 62, 69, 76, 83, 90, 97], 48) := by decide +kernel
theorem dX10_of_68 : decode cX10_of 68 = .ok (.aload_n 3, 1) := by decide +kernel
theorem dX10_of_69 : decode cX10_of 69 = .ok (.getfield 86, 3) := by decide +kernel
theorem dX10_of_72 : decode cX10_of 72 = .ok (.iload_n 1, 1) := by decide +kernel
theorem dX10_of_73 : decode cX10_of 73 = .ok (.iaload, 1) := by decide +kernel
theorem dX10_of_74 : decode cX10_of 74 = .ok (.ireturn, 1) := by decide +kernel
theorem dX10_of_75 : decode cX10_of 75 = .ok (.aload_n 3, 1) := by decide +kernel
theorem dX10_of_76 : decode cX10_of 76 = .ok (.getfield 104, 3) := by decide +kernel
theorem dX10_of_79 : decode cX10_of 79 = .ok (.iload_n 1, 1) := by decide +kernel
theorem dX10_of_80 : decode cX10_of 80 = .ok (.iaload, 1) := by decide +kernel
theorem dX10_of_81 : decode cX10_of 81 = .ok (.ireturn, 1) := by decide +kernel
theorem dX10_of_82 : decode cX10_of 82 = .ok (.aload_n 3, 1) := by decide +kernel
theorem dX10_of_83 : decode cX10_of 83 = .ok (.getfield 107, 3) := by decide +kernel
theorem dX10_of_86 : decode cX10_of 86 = .ok (.iload_n 1, 1) := by decide +kernel
theorem dX10_of_87 : decode cX10_of 87 = .ok (.iaload, 1) := by decide +kernel
theorem dX10_of_88 : decode cX10_of 88 = .ok (.ireturn, 1) := by decide +kernel
theorem dX10_of_89 : decode cX10_of 89 = .ok (.aload_n 3, 1) := by decide +kernel
theorem dX10_of_90 : decode cX10_of 90 = .ok (.getfield 110, 3) := by decide +kernel
theorem dX10_of_93 : decode cX10_of 93 = .ok (.iload_n 1, 1) := by decide +kernel
theorem dX10_of_94 : decode cX10_of 94 = .ok (.iaload, 1) := by decide +kernel
theorem dX10_of_95 : decode cX10_of 95 = .ok (.ireturn, 1) := by decide +kernel
theorem dX10_of_96 : decode cX10_of 96 = .ok (.aload_n 3, 1) := by decide +kernel
theorem dX10_of_97 : decode cX10_of 97 = .ok (.getfield 113, 3) := by decide +kernel
theorem dX10_of_100 : decode cX10_of 100 = .ok (.iload_n 1, 1) := by decide +kernel
theorem dX10_of_101 : decode cX10_of 101 = .ok (.iaload, 1) := by decide +kernel
theorem dX10_of_102 : decode cX10_of 102 = .ok (.ireturn, 1) := by decide +kernel
theorem dX10_of_103 : decode cX10_of 103 = .ok (.aload_n 3, 1) := by decide +kernel
theorem dX10_of_104 : decode cX10_of 104 = .ok (.getfield 95, 3) := by decide +kernel
theorem dX10_of_107 : decode cX10_of 107 = .ok (.iload_n 1, 1) := by decide +kernel
theorem dX10_of_108 : decode cX10_of 108 = .ok (.iaload, 1) := by decide +kernel
theorem dX10_of_109 : decode cX10_of 109 = .ok (.ireturn, 1) := by decide +kernel
theorem dX10_of_110 : decode cX10_of 110 = .ok (.aload_n 3, 1) := by decide +kernel
theorem dX10_of_111 : decode cX10_of 111 = .ok (.getfield 98, 3) := by decide +kernel
theorem dX10_of_114 : decode cX10_of 114 = .ok (.iload_n 1, 1) := by decide +kernel
theorem dX10_of_115 : decode cX10_of 115 = .ok (.iaload, 1) := by decide +kernel
theorem dX10_of_116 : decode cX10_of 116 = .ok (.ireturn, 1) := by decide +kernel
theorem dX10_of_117 : decode cX10_of 117 = .ok (.aload_n 3, 1) := by decide +kernel
theorem dX10_of_118 : decode cX10_of 118 = .ok (.getfield 116, 3) := by decide +kernel
theorem dX10_of_121 : decode cX10_of 121 = .ok (.iload_n 1, 1) := by decide +kernel
theorem dX10_of_122 : decode cX10_of 122 = .ok (.iaload, 1) := by decide +kernel
theorem dX10_of_123 : decode cX10_of 123 = .ok (.ireturn, 1) := by decide +kernel
theorem dX10_of_124 : decode cX10_of 124 = .ok (.ldc 78, 2) := by decide +kernel
theorem dX10_of_126 : decode cX10_of 126 = .ok (.ireturn, 1) := by decide +kernel
set_option maxRecDepth 20000 in
theorem ggX10_drop_X10_hostFinding : GoodIn wsX10_drop wsX10_hostFinding := goodIn_r _ [9, 10, 11, 12, 13, 14, 15, 16, 17, 18, 19, 20] (by decide +kernel) (by decide +kernel)
set_option maxRecDepth 20000 in
theorem gX10_drop_X10_hostFinding : GoodIn wsX10_drop (wsV RX10 91 RX10 yX10_hostFinding wsX10_hostFinding) := goodIn_app (goodIn_of _ (by decide +kernel)) ggX10_drop_X10_hostFinding
theorem dX10_drop_0 : decode cX10_drop 0 = .ok (.aload_n 0, 1) := by decide +kernel
theorem dX10_drop_1 : decode cX10_drop 1 = .ok (.getfield 10, 3) := by decide +kernel
theorem dX10_drop_4 : decode cX10_drop 4 = .ok (.getfield 69, 3) := by decide +kernel
theorem dX10_drop_7 : decode cX10_drop 7 = .ok (.getfield 73, 3) := by decide +kernel
theorem dX10_drop_10 : decode cX10_drop 10 = .ok (.ifCond .gt 10, 3) := by decide +kernel
theorem dX10_drop_13 : decode cX10_drop 13 = .ok (.aload_n 0, 1) := by decide +kernel
theorem dX10_drop_14 : decode cX10_drop 14 = .ok (.ldc 119, 2) := by decide +kernel
theorem dX10_drop_16 : decode cX10_drop 16 = .ok (.invokevirtual 91, 3) := by decide +kernel
theorem dX10_drop_19 : decode cX10_drop 19 = .ok (.ireturn, 1) := by decide +kernel
theorem dX10_drop_20 : decode cX10_drop 20 = .ok (.aload_n 0, 1) := by decide +kernel
theorem dX10_drop_21 : decode cX10_drop 21 = .ok (.getfield 10, 3) := by decide +kernel
theorem dX10_drop_24 : decode cX10_drop 24 = .ok (.getfield 69, 3) := by decide +kernel
theorem dX10_drop_27 : decode cX10_drop 27 = .ok (.dup, 1) := by decide +kernel
theorem dX10_drop_28 : decode cX10_drop 28 = .ok (.getfield 73, 3) := by decide +kernel
theorem dX10_drop_31 : decode cX10_drop 31 = .ok (.iconst 1, 1) := by decide +kernel
theorem dX10_drop_32 : decode cX10_drop 32 = .ok (.isub, 1) := by decide +kernel
theorem dX10_drop_33 : decode cX10_drop 33 = .ok (.putfield 73, 3) := by decide +kernel
theorem dX10_drop_36 : decode cX10_drop 36 = .ok (.aload_n 0, 1) := by decide +kernel
theorem dX10_drop_37 : decode cX10_drop 37 = .ok (.getfield 10, 3) := by decide +kernel
theorem dX10_drop_40 : decode cX10_drop 40 = .ok (.getfield 69, 3) := by decide +kernel
theorem dX10_drop_43 : decode cX10_drop 43 = .ok (.getfield 73, 3) := by decide +kernel
theorem dX10_drop_46 : decode cX10_drop 46 = .ok (.ireturn, 1) := by decide +kernel
set_option maxRecDepth 20000 in
theorem ggX10_best_X3_make : GoodIn wsX10_best wsX3_make := goodIn_r _ [10, 11, 12, 13, 14, 15, 16, 17, 18, 19, 20, 21, 22, 23, 24, 25, 26, 27, 9, 28, 29, 30, 31, 32, 33, 34, 35, 36, 37, 38, 39, 40, 41, 42, 43, 44, 45, 46, 47, 48, 49, 50, 51, 52, 53, 54, 55, 76, 77, 78, 79, 80, 81, 82, 83, 84, 85, 70, 71, 72, 73, 74, 75] (by decide +kernel) (by decide +kernel)
set_option maxRecDepth 20000 in
theorem gX10_best_X3_make : GoodIn wsX10_best (wsV RX10 120 RX3 yX3_make wsX3_make) := goodIn_app (goodIn_of _ (by decide +kernel)) ggX10_best_X3_make
theorem dX10_best_0 : decode cX10_best 0 = .ok (.aload_n 0, 1) := by decide +kernel
theorem dX10_best_1 : decode cX10_best 1 = .ok (.getfield 29, 3) := by decide +kernel
theorem dX10_best_4 : decode cX10_best 4 = .ok (.aload_n 0, 1) := by decide +kernel
theorem dX10_best_5 : decode cX10_best 5 = .ok (.getfield 10, 3) := by decide +kernel
theorem dX10_best_8 : decode cX10_best 8 = .ok (.getfield 69, 3) := by decide +kernel
theorem dX10_best_11 : decode cX10_best 11 = .ok (.invokevirtual 120, 3) := by decide +kernel
theorem dX10_best_14 : decode cX10_best 14 = .ok (.ifCond .eq 13, 3) := by decide +kernel
theorem dX10_best_17 : decode cX10_best 17 = .ok (.aload_n 0, 1) := by decide +kernel
theorem dX10_best_18 : decode cX10_best 18 = .ok (.getfield 29, 3) := by decide +kernel
theorem dX10_best_21 : decode cX10_best 21 = .ok (.getfield 124, 3) := by decide +kernel
theorem dX10_best_24 : decode cX10_best 24 = .ok (.goto 5, 3) := by decide +kernel
theorem dX10_best_27 : decode cX10_best 27 = .ok (.ldc 127, 2) := by decide +kernel
theorem dX10_best_29 : decode cX10_best 29 = .ok (.ireturn, 1) := by decide +kernel
set_option maxRecDepth 20000 in
theorem ggX10_worth_X3_make : GoodIn wsX10_worth wsX3_make := goodIn_r _ [11, 12, 13, 14, 15, 16, 17, 18, 19, 20, 21, 22, 23, 24, 25, 26, 27, 28, 10, 29, 30, 31, 32, 33, 34, 35, 36, 37, 38, 39, 40, 41, 42, 43, 44, 45, 46, 47, 48, 49, 50, 51, 52, 53, 54, 55, 56, 91, 92, 93, 94, 95, 96, 97, 98, 99, 100, 85, 86, 87, 88, 89, 90] (by decide +kernel) (by decide +kernel)
set_option maxRecDepth 20000 in
theorem gX10_worth_X3_make : GoodIn wsX10_worth (wsV RX10 120 RX3 yX3_make wsX3_make) := goodIn_app (goodIn_of _ (by decide +kernel)) ggX10_worth_X3_make
set_option maxRecDepth 20000 in
theorem ggX10_worth_X3_keeperParts : GoodIn wsX10_worth wsX3_keeperParts := goodIn_r _ [54, 55, 18, 56, 24, 91, 92, 93, 94, 95, 96, 97, 98, 99, 100, 85, 86, 87, 88, 89, 90] (by decide +kernel) (by decide +kernel)
set_option maxRecDepth 20000 in
theorem gX10_worth_X3_keeperParts : GoodIn wsX10_worth (wsV RX10 128 RX3 yX3_keeperParts wsX3_keeperParts) := goodIn_app (goodIn_of _ (by decide +kernel)) ggX10_worth_X3_keeperParts
set_option maxRecDepth 20000 in
theorem ggX10_worth_X10_fraction : GoodIn wsX10_worth wsX10_fraction := goodIn_r _ [62, 63, 64, 65, 66, 61, 67, 68, 69, 22, 70, 71, 72, 73, 74, 75, 76, 77, 78, 79, 80] (by decide +kernel) (by decide +kernel)
set_option maxRecDepth 20000 in
theorem gX10_worth_X10_fraction : GoodIn wsX10_worth (wsV RX10 136 RX10 yX10_fraction wsX10_fraction) := goodIn_app (goodIn_of _ (by decide +kernel)) ggX10_worth_X10_fraction
theorem dX10_worth_0 : decode cX10_worth 0 = .ok (.aload_n 0, 1) := by decide +kernel
theorem dX10_worth_1 : decode cX10_worth 1 = .ok (.getfield 29, 3) := by decide +kernel
theorem dX10_worth_4 : decode cX10_worth 4 = .ok (.aload_n 0, 1) := by decide +kernel
theorem dX10_worth_5 : decode cX10_worth 5 = .ok (.getfield 10, 3) := by decide +kernel
theorem dX10_worth_8 : decode cX10_worth 8 = .ok (.getfield 69, 3) := by decide +kernel
theorem dX10_worth_11 : decode cX10_worth 11 = .ok (.invokevirtual 120, 3) := by decide +kernel
theorem dX10_worth_14 : decode cX10_worth 14 = .ok (.ifCond .ne 6, 3) := by decide +kernel
theorem dX10_worth_17 : decode cX10_worth 17 = .ok (.ldc 127, 2) := by decide +kernel
theorem dX10_worth_19 : decode cX10_worth 19 = .ok (.ireturn, 1) := by decide +kernel
theorem dX10_worth_20 : decode cX10_worth 20 = .ok (.aload_n 0, 1) := by decide +kernel
theorem dX10_worth_21 : decode cX10_worth 21 = .ok (.aload_n 0, 1) := by decide +kernel
theorem dX10_worth_22 : decode cX10_worth 22 = .ok (.getfield 29, 3) := by decide +kernel
theorem dX10_worth_25 : decode cX10_worth 25 = .ok (.aload_n 0, 1) := by decide +kernel
theorem dX10_worth_26 : decode cX10_worth 26 = .ok (.getfield 10, 3) := by decide +kernel
theorem dX10_worth_29 : decode cX10_worth 29 = .ok (.getfield 69, 3) := by decide +kernel
theorem dX10_worth_32 : decode cX10_worth 32 = .ok (.aload_n 0, 1) := by decide +kernel
theorem dX10_worth_33 : decode cX10_worth 33 = .ok (.getfield 29, 3) := by decide +kernel
theorem dX10_worth_36 : decode cX10_worth 36 = .ok (.getfield 124, 3) := by decide +kernel
theorem dX10_worth_39 : decode cX10_worth 39 = .ok (.invokevirtual 128, 3) := by decide +kernel
theorem dX10_worth_42 : decode cX10_worth 42 = .ok (.aload_n 0, 1) := by decide +kernel
theorem dX10_worth_43 : decode cX10_worth 43 = .ok (.getfield 29, 3) := by decide +kernel
theorem dX10_worth_46 : decode cX10_worth 46 = .ok (.getfield 132, 3) := by decide +kernel
theorem dX10_worth_49 : decode cX10_worth 49 = .ok (.invokevirtual 136, 3) := by decide +kernel
theorem dX10_worth_52 : decode cX10_worth 52 = .ok (.ireturn, 1) := by decide +kernel
set_option maxRecDepth 20000 in
theorem ggX10_prize_X3_make : GoodIn wsX10_prize wsX3_make := goodIn_r _ [12, 13, 14, 15, 16, 17, 18, 19, 20, 21, 22, 23, 24, 25, 26, 27, 28, 29, 11, 30, 31, 32, 33, 34, 35, 36, 37, 38, 39, 40, 41, 42, 43, 44, 45, 46, 47, 48, 49, 50, 51, 52, 53, 54, 55, 56, 57, 91, 92, 93, 94, 95, 96, 97, 98, 99, 100, 85, 86, 87, 88, 89, 90] (by decide +kernel) (by decide +kernel)
set_option maxRecDepth 20000 in
theorem gX10_prize_X3_make : GoodIn wsX10_prize (wsV RX10 120 RX3 yX3_make wsX3_make) := goodIn_app (goodIn_of _ (by decide +kernel)) ggX10_prize_X3_make
set_option maxRecDepth 20000 in
theorem ggX10_prize_X10_fraction : GoodIn wsX10_prize wsX10_fraction := goodIn_r _ [62, 63, 64, 65, 66, 61, 67, 68, 69, 23, 70, 71, 72, 73, 74, 75, 76, 77, 78, 79, 80] (by decide +kernel) (by decide +kernel)
set_option maxRecDepth 20000 in
theorem gX10_prize_X10_fraction : GoodIn wsX10_prize (wsV RX10 136 RX10 yX10_fraction wsX10_fraction) := goodIn_app (goodIn_of _ (by decide +kernel)) ggX10_prize_X10_fraction
theorem dX10_prize_0 : decode cX10_prize 0 = .ok (.aload_n 0, 1) := by decide +kernel
theorem dX10_prize_1 : decode cX10_prize 1 = .ok (.getfield 29, 3) := by decide +kernel
theorem dX10_prize_4 : decode cX10_prize 4 = .ok (.aload_n 0, 1) := by decide +kernel
theorem dX10_prize_5 : decode cX10_prize 5 = .ok (.getfield 10, 3) := by decide +kernel
theorem dX10_prize_8 : decode cX10_prize 8 = .ok (.getfield 69, 3) := by decide +kernel
theorem dX10_prize_11 : decode cX10_prize 11 = .ok (.invokevirtual 120, 3) := by decide +kernel
theorem dX10_prize_14 : decode cX10_prize 14 = .ok (.ifCond .ne 6, 3) := by decide +kernel
theorem dX10_prize_17 : decode cX10_prize 17 = .ok (.ldc 127, 2) := by decide +kernel
theorem dX10_prize_19 : decode cX10_prize 19 = .ok (.ireturn, 1) := by decide +kernel
theorem dX10_prize_20 : decode cX10_prize 20 = .ok (.aload_n 0, 1) := by decide +kernel
theorem dX10_prize_21 : decode cX10_prize 21 = .ok (.aload_n 0, 1) := by decide +kernel
theorem dX10_prize_22 : decode cX10_prize 22 = .ok (.getfield 29, 3) := by decide +kernel
theorem dX10_prize_25 : decode cX10_prize 25 = .ok (.getfield 140, 3) := by decide +kernel
theorem dX10_prize_28 : decode cX10_prize 28 = .ok (.ldc2_w 143, 3) := by decide +kernel
theorem dX10_prize_31 : decode cX10_prize 31 = .ok (.aload_n 0, 1) := by decide +kernel
theorem dX10_prize_32 : decode cX10_prize 32 = .ok (.getfield 29, 3) := by decide +kernel
theorem dX10_prize_35 : decode cX10_prize 35 = .ok (.getfield 145, 3) := by decide +kernel
theorem dX10_prize_38 : decode cX10_prize 38 = .ok (.lmul, 1) := by decide +kernel
theorem dX10_prize_39 : decode cX10_prize 39 = .ok (.invokevirtual 136, 3) := by decide +kernel
theorem dX10_prize_42 : decode cX10_prize 42 = .ok (.ireturn, 1) := by decide +kernel
set_option maxRecDepth 20000 in
theorem ggX10_share_X8_has : GoodIn wsX10_share wsX8_has := goodIn_r _ [12, 13, 14, 15, 16, 98, 99, 100, 101, 102, 103, 104, 105, 106, 107] (by decide +kernel) (by decide +kernel)
set_option maxRecDepth 20000 in
theorem gX10_share_X8_has : GoodIn wsX10_share (wsV RX10 83 RX8 yX8_has wsX8_has) := goodIn_app (goodIn_of _ (by decide +kernel)) ggX10_share_X8_has
set_option maxRecDepth 20000 in
theorem ggX10_share_X3_make : GoodIn wsX10_share wsX3_make := goodIn_r _ [21, 22, 23, 24, 25, 26, 27, 28, 29, 30, 31, 32, 33, 34, 35, 36, 37, 38, 20, 39, 40, 41, 42, 43, 44, 45, 46, 47, 48, 49, 50, 51, 52, 53, 54, 55, 56, 57, 58, 59, 60, 61, 62, 63, 64, 65, 66, 98, 99, 100, 101, 102, 103, 104, 105, 106, 107, 92, 93, 94, 95, 96, 97] (by decide +kernel) (by decide +kernel)
set_option maxRecDepth 20000 in
theorem gX10_share_X3_make : GoodIn wsX10_share (wsV RX10 120 RX3 yX3_make wsX3_make) := goodIn_app (goodIn_of _ (by decide +kernel)) ggX10_share_X3_make
set_option maxRecDepth 20000 in
theorem ggX10_share_X10_fraction : GoodIn wsX10_share wsX10_fraction := goodIn_r _ [70, 3, 71, 72, 73, 15, 74, 75, 76, 32, 77, 78, 79, 80, 81, 82, 83, 84, 85, 86, 87] (by decide +kernel) (by decide +kernel)
set_option maxRecDepth 20000 in
theorem gX10_share_X10_fraction : GoodIn wsX10_share (wsV RX10 136 RX10 yX10_fraction wsX10_fraction) := goodIn_app (goodIn_of _ (by decide +kernel)) ggX10_share_X10_fraction
theorem dX10_share_0 : decode cX10_share 0 = .ok (.aload_n 0, 1) := by decide +kernel
theorem dX10_share_1 : decode cX10_share 1 = .ok (.getfield 10, 3) := by decide +kernel
theorem dX10_share_4 : decode cX10_share 4 = .ok (.getfield 69, 3) := by decide +kernel
theorem dX10_share_7 : decode cX10_share 7 = .ok (.iload_n 1, 1) := by decide +kernel
theorem dX10_share_8 : decode cX10_share 8 = .ok (.invokevirtual 83, 3) := by decide +kernel
theorem dX10_share_11 : decode cX10_share 11 = .ok (.ifCond .ne 6, 3) := by decide +kernel
theorem dX10_share_14 : decode cX10_share 14 = .ok (.ldc 78, 2) := by decide +kernel
theorem dX10_share_16 : decode cX10_share 16 = .ok (.ireturn, 1) := by decide +kernel
theorem dX10_share_17 : decode cX10_share 17 = .ok (.aload_n 0, 1) := by decide +kernel
theorem dX10_share_18 : decode cX10_share 18 = .ok (.getfield 29, 3) := by decide +kernel
theorem dX10_share_21 : decode cX10_share 21 = .ok (.aload_n 0, 1) := by decide +kernel
theorem dX10_share_22 : decode cX10_share 22 = .ok (.getfield 10, 3) := by decide +kernel
theorem dX10_share_25 : decode cX10_share 25 = .ok (.getfield 69, 3) := by decide +kernel
theorem dX10_share_28 : decode cX10_share 28 = .ok (.invokevirtual 120, 3) := by decide +kernel
theorem dX10_share_31 : decode cX10_share 31 = .ok (.ifCond .ne 6, 3) := by decide +kernel
theorem dX10_share_34 : decode cX10_share 34 = .ok (.ldc 127, 2) := by decide +kernel
theorem dX10_share_36 : decode cX10_share 36 = .ok (.ireturn, 1) := by decide +kernel
theorem dX10_share_37 : decode cX10_share 37 = .ok (.aload_n 0, 1) := by decide +kernel
theorem dX10_share_38 : decode cX10_share 38 = .ok (.aload_n 0, 1) := by decide +kernel
theorem dX10_share_39 : decode cX10_share 39 = .ok (.getfield 29, 3) := by decide +kernel
theorem dX10_share_42 : decode cX10_share 42 = .ok (.getfield 148, 3) := by decide +kernel
theorem dX10_share_45 : decode cX10_share 45 = .ok (.iload_n 1, 1) := by decide +kernel
theorem dX10_share_46 : decode cX10_share 46 = .ok (.laload, 1) := by decide +kernel
theorem dX10_share_47 : decode cX10_share 47 = .ok (.aload_n 0, 1) := by decide +kernel
theorem dX10_share_48 : decode cX10_share 48 = .ok (.getfield 29, 3) := by decide +kernel
theorem dX10_share_51 : decode cX10_share 51 = .ok (.getfield 132, 3) := by decide +kernel
theorem dX10_share_54 : decode cX10_share 54 = .ok (.invokevirtual 136, 3) := by decide +kernel
theorem dX10_share_57 : decode cX10_share 57 = .ok (.ireturn, 1) := by decide +kernel
theorem dX10_below_0 : decode cX10_below 0 = .ok (.aload_n 0, 1) := by decide +kernel
theorem dX10_below_1 : decode cX10_below 1 = .ok (.getfield 54, 3) := by decide +kernel
theorem dX10_below_4 : decode cX10_below 4 = .ok (.ireturn, 1) := by decide +kernel
set_option maxRecDepth 20000 in
theorem ggX10_put_X8_has : GoodIn wsX10_put wsX8_has := goodIn_r _ [11, 12, 13, 14, 15, 31, 32, 33, 34, 35, 36, 37, 38, 39, 40] (by decide +kernel) (by decide +kernel)
set_option maxRecDepth 20000 in
theorem gX10_put_X8_has : GoodIn wsX10_put (wsV RX10 83 RX8 yX8_has wsX8_has) := goodIn_app (goodIn_of _ (by decide +kernel)) ggX10_put_X8_has
set_option maxRecDepth 20000 in
theorem ggX10_put_X10_isFrom : GoodIn wsX10_put wsX10_isFrom := goodIn_r _ [15] (by decide +kernel) (by decide +kernel)
set_option maxRecDepth 20000 in
theorem gX10_put_X10_isFrom : GoodIn wsX10_put (va_wsS RX10 58 yX10_isFrom wsX10_isFrom) := goodIn_app (goodIn_of _ (by decide +kernel)) ggX10_put_X10_isFrom
theorem dX10_put_0 : decode cX10_put 0 = .ok (.aload_n 0, 1) := by decide +kernel
theorem dX10_put_1 : decode cX10_put 1 = .ok (.getfield 10, 3) := by decide +kernel
theorem dX10_put_4 : decode cX10_put 4 = .ok (.getfield 69, 3) := by decide +kernel
theorem dX10_put_7 : decode cX10_put 7 = .ok (.astore_n 3, 1) := by decide +kernel
theorem dX10_put_8 : decode cX10_put 8 = .ok (.aload_n 3, 1) := by decide +kernel
theorem dX10_put_9 : decode cX10_put 9 = .ok (.iload_n 1, 1) := by decide +kernel
theorem dX10_put_10 : decode cX10_put 10 = .ok (.invokevirtual 83, 3) := by decide +kernel
theorem dX10_put_13 : decode cX10_put 13 = .ok (.ifCond .eq 22, 3) := by decide +kernel
theorem dX10_put_16 : decode cX10_put 16 = .ok (.iload_n 2, 1) := by decide +kernel
theorem dX10_put_17 : decode cX10_put 17 = .ok (.aload_n 3, 1) := by decide +kernel
theorem dX10_put_18 : decode cX10_put 18 = .ok (.getfield 95, 3) := by decide +kernel
theorem dX10_put_21 : decode cX10_put 21 = .ok (.iload_n 1, 1) := by decide +kernel
theorem dX10_put_22 : decode cX10_put 22 = .ok (.iaload, 1) := by decide +kernel
theorem dX10_put_23 : decode cX10_put 23 = .ok (.aload_n 3, 1) := by decide +kernel
theorem dX10_put_24 : decode cX10_put 24 = .ok (.getfield 98, 3) := by decide +kernel
theorem dX10_put_27 : decode cX10_put 27 = .ok (.iload_n 1, 1) := by decide +kernel
theorem dX10_put_28 : decode cX10_put 28 = .ok (.iaload, 1) := by decide +kernel
theorem dX10_put_29 : decode cX10_put 29 = .ok (.invokestatic 58, 3) := by decide +kernel
theorem dX10_put_32 : decode cX10_put 32 = .ok (.ifCond .ne 6, 3) := by decide +kernel
theorem dX10_put_35 : decode cX10_put 35 = .ok (.ldc 78, 2) := by decide +kernel
theorem dX10_put_37 : decode cX10_put 37 = .ok (.ireturn, 1) := by decide +kernel
theorem dX10_put_38 : decode cX10_put 38 = .ok (.aload_n 3, 1) := by decide +kernel
theorem dX10_put_39 : decode cX10_put 39 = .ok (.getfield 116, 3) := by decide +kernel
theorem dX10_put_42 : decode cX10_put 42 = .ok (.iload_n 1, 1) := by decide +kernel
theorem dX10_put_43 : decode cX10_put 43 = .ok (.iaload, 1) := by decide +kernel
theorem dX10_put_44 : decode cX10_put 44 = .ok (.istore 4, 2) := by decide +kernel
theorem dX10_put_46 : decode cX10_put 46 = .ok (.aload_n 3, 1) := by decide +kernel
theorem dX10_put_47 : decode cX10_put 47 = .ok (.getfield 116, 3) := by decide +kernel
theorem dX10_put_50 : decode cX10_put 50 = .ok (.iload_n 1, 1) := by decide +kernel
theorem dX10_put_51 : decode cX10_put 51 = .ok (.iload_n 2, 1) := by decide +kernel
theorem dX10_put_52 : decode cX10_put 52 = .ok (.iastore, 1) := by decide +kernel
theorem dX10_put_53 : decode cX10_put 53 = .ok (.iload 4, 2) := by decide +kernel
theorem dX10_put_55 : decode cX10_put 55 = .ok (.ireturn, 1) := by decide +kernel
theorem dX10_spare_0 : decode cX10_spare 0 = .ok (.aload_n 0, 1) := by decide +kernel
theorem dX10_spare_1 : decode cX10_spare 1 = .ok (.getfield 10, 3) := by decide +kernel
theorem dX10_spare_4 : decode cX10_spare 4 = .ok (.getfield 69, 3) := by decide +kernel
theorem dX10_spare_7 : decode cX10_spare 7 = .ok (.astore_n 1, 1) := by decide +kernel
theorem dX10_spare_8 : decode cX10_spare 8 = .ok (.iconst 0, 1) := by decide +kernel
theorem dX10_spare_9 : decode cX10_spare 9 = .ok (.istore_n 2, 1) := by decide +kernel
theorem dX10_spare_10 : decode cX10_spare 10 = .ok (.iconst 0, 1) := by decide +kernel
theorem dX10_spare_11 : decode cX10_spare 11 = .ok (.istore_n 3, 1) := by decide +kernel
theorem dX10_spare_12 : decode cX10_spare 12 = .ok (.iload_n 3, 1) := by decide +kernel
theorem dX10_spare_13 : decode cX10_spare 13 = .ok (.aload_n 1, 1) := by decide +kernel
theorem dX10_spare_14 : decode cX10_spare 14 = .ok (.getfield 73, 3) := by decide +kernel
theorem dX10_spare_17 : decode cX10_spare 17 = .ok (.if_icmp .ge 18, 3) := by decide +kernel
theorem dX10_spare_20 : decode cX10_spare 20 = .ok (.iload_n 2, 1) := by decide +kernel
theorem dX10_spare_21 : decode cX10_spare 21 = .ok (.aload_n 1, 1) := by decide +kernel
theorem dX10_spare_22 : decode cX10_spare 22 = .ok (.getfield 116, 3) := by decide +kernel
theorem dX10_spare_25 : decode cX10_spare 25 = .ok (.iload_n 3, 1) := by decide +kernel
theorem dX10_spare_26 : decode cX10_spare 26 = .ok (.iaload, 1) := by decide +kernel
theorem dX10_spare_27 : decode cX10_spare 27 = .ok (.iadd, 1) := by decide +kernel
theorem dX10_spare_28 : decode cX10_spare 28 = .ok (.istore_n 2, 1) := by decide +kernel
theorem dX10_spare_29 : decode cX10_spare 29 = .ok (.iinc 3 1, 3) := by decide +kernel
theorem dX10_spare_32 : decode cX10_spare 32 = .ok (.goto (-20), 3) := by decide +kernel
theorem dX10_spare_35 : decode cX10_spare 35 = .ok (.iload_n 2, 1) := by decide +kernel
theorem dX10_spare_36 : decode cX10_spare 36 = .ok (.bipush 60, 2) := by decide +kernel
theorem dX10_spare_38 : decode cX10_spare 38 = .ok (.aload_n 1, 1) := by decide +kernel
theorem dX10_spare_39 : decode cX10_spare 39 = .ok (.getfield 101, 3) := by decide +kernel
theorem dX10_spare_42 : decode cX10_spare 42 = .ok (.imul, 1) := by decide +kernel
theorem dX10_spare_43 : decode cX10_spare 43 = .ok (.isub, 1) := by decide +kernel
theorem dX10_spare_44 : decode cX10_spare 44 = .ok (.ireturn, 1) := by decide +kernel
set_option maxRecDepth 20000 in
theorem ggX10_comes_X8_goalByHand : GoodIn wsX10_comes wsX8_goalByHand := goodIn_r _ [9, 10, 11, 12, 13, 8, 14, 15, 16, 17, 18, 19, 20, 21, 22, 23, 38, 39, 40, 41, 42, 43, 44, 45, 46, 47] (by decide +kernel) (by decide +kernel)
set_option maxRecDepth 20000 in
theorem gX10_comes_X8_goalByHand : GoodIn wsX10_comes (wsV RX10 152 RX8 yX8_goalByHand wsX8_goalByHand) := goodIn_app (goodIn_of _ (by decide +kernel)) ggX10_comes_X8_goalByHand
theorem dX10_comes_0 : decode cX10_comes 0 = .ok (.aload_n 0, 1) := by decide +kernel
theorem dX10_comes_1 : decode cX10_comes 1 = .ok (.getfield 10, 3) := by decide +kernel
theorem dX10_comes_4 : decode cX10_comes 4 = .ok (.getfield 69, 3) := by decide +kernel
theorem dX10_comes_7 : decode cX10_comes 7 = .ok (.getfield 73, 3) := by decide +kernel
theorem dX10_comes_10 : decode cX10_comes 10 = .ok (.ifCond .ne 8, 3) := by decide +kernel
theorem dX10_comes_13 : decode cX10_comes 13 = .ok (.ldc 127, 2) := by decide +kernel
theorem dX10_comes_15 : decode cX10_comes 15 = .ok (.goto 13, 3) := by decide +kernel
theorem dX10_comes_18 : decode cX10_comes 18 = .ok (.aload_n 0, 1) := by decide +kernel
theorem dX10_comes_19 : decode cX10_comes 19 = .ok (.getfield 10, 3) := by decide +kernel
theorem dX10_comes_22 : decode cX10_comes 22 = .ok (.getfield 69, 3) := by decide +kernel
theorem dX10_comes_25 : decode cX10_comes 25 = .ok (.invokevirtual 152, 3) := by decide +kernel
theorem dX10_comes_28 : decode cX10_comes 28 = .ok (.ireturn, 1) := by decide +kernel
set_option maxRecDepth 20000 in
theorem ggX10_handWorth_X8_goalByHand : GoodIn wsX10_handWorth wsX8_goalByHand := goodIn_r _ [10, 11, 12, 13, 14, 9, 15, 16, 17, 18, 19, 20, 21, 22, 23, 24, 54, 55, 56, 57, 58, 59, 60, 61, 62, 63] (by decide +kernel) (by decide +kernel)
set_option maxRecDepth 20000 in
theorem gX10_handWorth_X8_goalByHand : GoodIn wsX10_handWorth (wsV RX10 152 RX8 yX8_goalByHand wsX8_goalByHand) := goodIn_app (goodIn_of _ (by decide +kernel)) ggX10_handWorth_X8_goalByHand
set_option maxRecDepth 20000 in
theorem ggX10_handWorth_X8_keeperByHand : GoodIn wsX10_handWorth wsX8_keeperByHand := goodIn_r _ [22, 23, 17, 24, 54, 55, 56, 57, 58, 59, 60, 61, 62, 63] (by decide +kernel) (by decide +kernel)
set_option maxRecDepth 20000 in
theorem gX10_handWorth_X8_keeperByHand : GoodIn wsX10_handWorth (wsV RX10 156 RX8 yX8_keeperByHand wsX8_keeperByHand) := goodIn_app (goodIn_of _ (by decide +kernel)) ggX10_handWorth_X8_keeperByHand
set_option maxRecDepth 20000 in
theorem ggX10_handWorth_X10_fraction : GoodIn wsX10_handWorth wsX10_fraction := goodIn_r _ [30, 31, 32, 33, 34, 29, 35, 36, 37, 38, 39, 40, 41, 42, 43, 44, 45, 46, 47, 48, 49] (by decide +kernel) (by decide +kernel)
set_option maxRecDepth 20000 in
theorem gX10_handWorth_X10_fraction : GoodIn wsX10_handWorth (wsV RX10 136 RX10 yX10_fraction wsX10_fraction) := goodIn_app (goodIn_of _ (by decide +kernel)) ggX10_handWorth_X10_fraction
theorem dX10_handWorth_0 : decode cX10_handWorth 0 = .ok (.aload_n 0, 1) := by decide +kernel
theorem dX10_handWorth_1 : decode cX10_handWorth 1 = .ok (.getfield 10, 3) := by decide +kernel
theorem dX10_handWorth_4 : decode cX10_handWorth 4 = .ok (.getfield 69, 3) := by decide +kernel
theorem dX10_handWorth_7 : decode cX10_handWorth 7 = .ok (.getfield 73, 3) := by decide +kernel
theorem dX10_handWorth_10 : decode cX10_handWorth 10 = .ok (.ifCond .ne 6, 3) := by decide +kernel
theorem dX10_handWorth_13 : decode cX10_handWorth 13 = .ok (.ldc 127, 2) := by decide +kernel
theorem dX10_handWorth_15 : decode cX10_handWorth 15 = .ok (.ireturn, 1) := by decide +kernel
theorem dX10_handWorth_16 : decode cX10_handWorth 16 = .ok (.aload_n 0, 1) := by decide +kernel
theorem dX10_handWorth_17 : decode cX10_handWorth 17 = .ok (.aload_n 0, 1) := by decide +kernel
theorem dX10_handWorth_18 : decode cX10_handWorth 18 = .ok (.getfield 10, 3) := by decide +kernel
theorem dX10_handWorth_21 : decode cX10_handWorth 21 = .ok (.getfield 69, 3) := by decide +kernel
theorem dX10_handWorth_24 : decode cX10_handWorth 24 = .ok (.aload_n 0, 1) := by decide +kernel
theorem dX10_handWorth_25 : decode cX10_handWorth 25 = .ok (.getfield 10, 3) := by decide +kernel
theorem dX10_handWorth_28 : decode cX10_handWorth 28 = .ok (.getfield 69, 3) := by decide +kernel
theorem dX10_handWorth_31 : decode cX10_handWorth 31 = .ok (.invokevirtual 152, 3) := by decide +kernel
theorem dX10_handWorth_34 : decode cX10_handWorth 34 = .ok (.invokevirtual 156, 3) := by decide +kernel
theorem dX10_handWorth_37 : decode cX10_handWorth 37 = .ok (.i2l, 1) := by decide +kernel
theorem dX10_handWorth_38 : decode cX10_handWorth 38 = .ok (.ldc2_w 143, 3) := by decide +kernel
theorem dX10_handWorth_41 : decode cX10_handWorth 41 = .ok (.invokevirtual 136, 3) := by decide +kernel
theorem dX10_handWorth_44 : decode cX10_handWorth 44 = .ok (.ireturn, 1) := by decide +kernel
set_option maxRecDepth 20000 in
theorem ggX10_errs_X10_isFrom : GoodIn wsX10_errs wsX10_isFrom := goodIn_r _ [10] (by decide +kernel) (by decide +kernel)
set_option maxRecDepth 20000 in
theorem gX10_errs_X10_isFrom : GoodIn wsX10_errs (va_wsS RX10 58 yX10_isFrom wsX10_isFrom) := goodIn_app (goodIn_of _ (by decide +kernel)) ggX10_errs_X10_isFrom
set_option maxRecDepth 20000 in
theorem ggX10_errs_X8_worstByHand : GoodIn wsX10_errs wsX8_worstByHand := goodIn_r _ [15, 16, 17, 18, 19, 20, 21, 22, 23, 14, 24, 25, 26, 27, 28, 29, 30, 31, 32, 33, 34, 35, 36, 37, 63, 64, 65, 66, 67, 68, 69, 70, 71, 72] (by decide +kernel) (by decide +kernel)
set_option maxRecDepth 20000 in
theorem gX10_errs_X8_worstByHand : GoodIn wsX10_errs (wsV RX10 159 RX8 yX8_worstByHand wsX8_worstByHand) := goodIn_app (goodIn_of _ (by decide +kernel)) ggX10_errs_X8_worstByHand
set_option maxRecDepth 20000 in
theorem ggX10_errs_X10_fraction : GoodIn wsX10_errs wsX10_fraction := goodIn_r _ [41, 1, 42, 43, 44, 9, 45, 46, 47, 19, 48, 49, 50, 51, 52, 53, 54, 55, 56, 57, 58] (by decide +kernel) (by decide +kernel)
set_option maxRecDepth 20000 in
theorem gX10_errs_X10_fraction : GoodIn wsX10_errs (wsV RX10 136 RX10 yX10_fraction wsX10_fraction) := goodIn_app (goodIn_of _ (by decide +kernel)) ggX10_errs_X10_fraction
theorem dX10_errs_0 : decode cX10_errs 0 = .ok (.iload_n 1, 1) := by decide +kernel
theorem dX10_errs_1 : decode cX10_errs 1 = .ok (.iconst 0, 1) := by decide +kernel
theorem dX10_errs_2 : decode cX10_errs 2 = .ok (.sipush 3600, 3) := by decide +kernel
theorem dX10_errs_5 : decode cX10_errs 5 = .ok (.invokestatic 58, 3) := by decide +kernel
theorem dX10_errs_8 : decode cX10_errs 8 = .ok (.ifCond .ne 6, 3) := by decide +kernel
theorem dX10_errs_11 : decode cX10_errs 11 = .ok (.ldc 78, 2) := by decide +kernel
theorem dX10_errs_13 : decode cX10_errs 13 = .ok (.ireturn, 1) := by decide +kernel
theorem dX10_errs_14 : decode cX10_errs 14 = .ok (.aload_n 0, 1) := by decide +kernel
theorem dX10_errs_15 : decode cX10_errs 15 = .ok (.getfield 10, 3) := by decide +kernel
theorem dX10_errs_18 : decode cX10_errs 18 = .ok (.getfield 69, 3) := by decide +kernel
theorem dX10_errs_21 : decode cX10_errs 21 = .ok (.getfield 73, 3) := by decide +kernel
theorem dX10_errs_24 : decode cX10_errs 24 = .ok (.ifCond .ne 6, 3) := by decide +kernel
theorem dX10_errs_27 : decode cX10_errs 27 = .ok (.ldc 127, 2) := by decide +kernel
theorem dX10_errs_29 : decode cX10_errs 29 = .ok (.ireturn, 1) := by decide +kernel
theorem dX10_errs_30 : decode cX10_errs 30 = .ok (.aload_n 0, 1) := by decide +kernel
theorem dX10_errs_31 : decode cX10_errs 31 = .ok (.aload_n 0, 1) := by decide +kernel
theorem dX10_errs_32 : decode cX10_errs 32 = .ok (.getfield 10, 3) := by decide +kernel
theorem dX10_errs_35 : decode cX10_errs 35 = .ok (.getfield 69, 3) := by decide +kernel
theorem dX10_errs_38 : decode cX10_errs 38 = .ok (.iload_n 1, 1) := by decide +kernel
theorem dX10_errs_39 : decode cX10_errs 39 = .ok (.invokevirtual 159, 3) := by decide +kernel
theorem dX10_errs_42 : decode cX10_errs 42 = .ok (.i2l, 1) := by decide +kernel
theorem dX10_errs_43 : decode cX10_errs 43 = .ok (.ldc2_w 143, 3) := by decide +kernel
theorem dX10_errs_46 : decode cX10_errs 46 = .ok (.invokevirtual 136, 3) := by decide +kernel
theorem dX10_errs_49 : decode cX10_errs 49 = .ok (.ireturn, 1) := by decide +kernel
set_option maxRecDepth 20000 in
theorem ggX10_lots_X10_makeDraw : GoodIn wsX10_lots wsX10_makeDraw := goodIn_r _ [8, 9, 10, 11, 1, 12, 13, 14, 15, 16, 17, 18, 19, 20, 21, 22, 23, 24, 25, 26, 27, 28, 29, 30, 31, 32, 33, 34, 35, 36, 37, 38, 39, 40, 41, 42, 43, 44, 45, 46, 47, 48, 49, 50, 51, 52, 53, 54, 55, 56, 57, 58, 59, 60, 61, 62, 63, 64, 65, 66, 67, 68, 69, 70, 71, 72, 73, 74, 75, 76, 77, 78, 79, 80, 81, 82, 83, 84, 85, 86, 87, 88, 91, 92, 93, 94, 95, 96, 97, 98, 99, 100, 101, 102, 103, 104, 105, 106, 107, 108, 109, 110, 89, 90] (by decide +kernel) (by decide +kernel)
set_option maxRecDepth 20000 in
theorem gX10_lots_X10_makeDraw : GoodIn wsX10_lots (wsV RX10 162 RX10 yX10_makeDraw wsX10_makeDraw) := goodIn_app (goodIn_of _ (by decide +kernel)) ggX10_lots_X10_makeDraw
theorem dX10_lots_0 : decode cX10_lots 0 = .ok (.aload_n 0, 1) := by decide +kernel
theorem dX10_lots_1 : decode cX10_lots 1 = .ok (.invokevirtual 162, 3) := by decide +kernel
theorem dX10_lots_4 : decode cX10_lots 4 = .ok (.ifCond .eq 13, 3) := by decide +kernel
theorem dX10_lots_7 : decode cX10_lots 7 = .ok (.aload_n 0, 1) := by decide +kernel
theorem dX10_lots_8 : decode cX10_lots 8 = .ok (.getfield 36, 3) := by decide +kernel
theorem dX10_lots_11 : decode cX10_lots 11 = .ok (.getfield 166, 3) := by decide +kernel
theorem dX10_lots_14 : decode cX10_lots 14 = .ok (.goto 5, 3) := by decide +kernel
theorem dX10_lots_17 : decode cX10_lots 17 = .ok (.ldc 127, 2) := by decide +kernel
theorem dX10_lots_19 : decode cX10_lots 19 = .ok (.ireturn, 1) := by decide +kernel
set_option maxRecDepth 20000 in
theorem ggX10_team_X10_makeDraw : GoodIn wsX10_team wsX10_makeDraw := goodIn_r _ [10, 4, 11, 12, 1, 13, 14, 15, 16, 17, 18, 19, 20, 21, 22, 23, 24, 25, 26, 27, 28, 29, 30, 31, 32, 33, 34, 35, 36, 37, 38, 39, 40, 41, 42, 43, 44, 45, 46, 47, 48, 49, 50, 51, 52, 53, 54, 55, 56, 57, 58, 59, 60, 61, 62, 63, 64, 65, 66, 67, 68, 69, 70, 71, 72, 73, 74, 75, 76, 77, 78, 79, 87, 88, 89, 90, 91, 92, 93, 94, 95, 96, 99, 100, 101, 102, 103, 104, 105, 106, 107, 108, 109, 110, 111, 112, 113, 114, 115, 116, 117, 118, 97, 98] (by decide +kernel) (by decide +kernel)
set_option maxRecDepth 20000 in
theorem gX10_team_X10_makeDraw : GoodIn wsX10_team (wsV RX10 162 RX10 yX10_makeDraw wsX10_makeDraw) := goodIn_app (goodIn_of _ (by decide +kernel)) ggX10_team_X10_makeDraw
set_option maxRecDepth 20000 in
theorem ggX10_team_X10_isFrom : GoodIn wsX10_team wsX10_isFrom := goodIn_r _ [82] (by decide +kernel) (by decide +kernel)
set_option maxRecDepth 20000 in
theorem gX10_team_X10_isFrom : GoodIn wsX10_team (va_wsS RX10 58 yX10_isFrom wsX10_isFrom) := goodIn_app (goodIn_of _ (by decide +kernel)) ggX10_team_X10_isFrom
set_option maxRecDepth 20000 in
theorem ggX10_team_X1_membersAt : GoodIn wsX10_team wsX1_membersAt := goodIn_r _ [86, 70, 71, 72, 73, 74, 66, 75, 113, 114, 115, 116, 117, 118] (by decide +kernel) (by decide +kernel)
set_option maxRecDepth 20000 in
theorem gX10_team_X1_membersAt : GoodIn wsX10_team (wsV RX10 170 RX1 yX1_membersAt wsX1_membersAt) := goodIn_app (goodIn_of _ (by decide +kernel)) ggX10_team_X1_membersAt
theorem dX10_team_0 : decode cX10_team 0 = .ok (.aload_n 0, 1) := by decide +kernel
theorem dX10_team_1 : decode cX10_team 1 = .ok (.invokevirtual 162, 3) := by decide +kernel
theorem dX10_team_4 : decode cX10_team 4 = .ok (.ifCond .eq 20, 3) := by decide +kernel
theorem dX10_team_7 : decode cX10_team 7 = .ok (.iload_n 1, 1) := by decide +kernel
theorem dX10_team_8 : decode cX10_team 8 = .ok (.iconst 0, 1) := by decide +kernel
theorem dX10_team_9 : decode cX10_team 9 = .ok (.aload_n 0, 1) := by decide +kernel
theorem dX10_team_10 : decode cX10_team 10 = .ok (.getfield 36, 3) := by decide +kernel
theorem dX10_team_13 : decode cX10_team 13 = .ok (.getfield 166, 3) := by decide +kernel
theorem dX10_team_16 : decode cX10_team 16 = .ok (.iconst 1, 1) := by decide +kernel
theorem dX10_team_17 : decode cX10_team 17 = .ok (.isub, 1) := by decide +kernel
theorem dX10_team_18 : decode cX10_team 18 = .ok (.invokestatic 58, 3) := by decide +kernel
theorem dX10_team_21 : decode cX10_team 21 = .ok (.ifCond .ne 6, 3) := by decide +kernel
theorem dX10_team_24 : decode cX10_team 24 = .ok (.ldc 127, 2) := by decide +kernel
theorem dX10_team_26 : decode cX10_team 26 = .ok (.ireturn, 1) := by decide +kernel
theorem dX10_team_27 : decode cX10_team 27 = .ok (.aload_n 0, 1) := by decide +kernel
theorem dX10_team_28 : decode cX10_team 28 = .ok (.getfield 36, 3) := by decide +kernel
theorem dX10_team_31 : decode cX10_team 31 = .ok (.aload_n 0, 1) := by decide +kernel
theorem dX10_team_32 : decode cX10_team 32 = .ok (.getfield 29, 3) := by decide +kernel
theorem dX10_team_35 : decode cX10_team 35 = .ok (.aload_n 0, 1) := by decide +kernel
theorem dX10_team_36 : decode cX10_team 36 = .ok (.getfield 36, 3) := by decide +kernel
theorem dX10_team_39 : decode cX10_team 39 = .ok (.getfield 167, 3) := by decide +kernel
theorem dX10_team_42 : decode cX10_team 42 = .ok (.iload_n 1, 1) := by decide +kernel
theorem dX10_team_43 : decode cX10_team 43 = .ok (.laload, 1) := by decide +kernel
theorem dX10_team_44 : decode cX10_team 44 = .ok (.invokevirtual 170, 3) := by decide +kernel
theorem dX10_team_47 : decode cX10_team 47 = .ok (.ireturn, 1) := by decide +kernel
set_option maxRecDepth 20000 in
theorem ggX10_chance_X10_makeDraw : GoodIn wsX10_chance wsX10_makeDraw := goodIn_r _ [11, 5, 12, 13, 1, 14, 15, 16, 17, 18, 19, 20, 21, 22, 23, 24, 25, 26, 27, 28, 29, 30, 31, 32, 33, 34, 35, 36, 37, 38, 39, 40, 41, 42, 43, 44, 45, 46, 47, 48, 49, 50, 51, 52, 53, 54, 55, 56, 57, 58, 59, 60, 61, 62, 63, 64, 65, 66, 67, 68, 69, 70, 71, 72, 73, 74, 75, 76, 77, 78, 79, 80, 96, 97, 98, 99, 100, 101, 102, 103, 104, 105, 114, 115, 116, 117, 118, 119, 120, 121, 122, 123, 124, 125, 126, 127, 108, 109, 110, 111, 112, 113, 106, 107] (by decide +kernel) (by decide +kernel)
set_option maxRecDepth 20000 in
theorem gX10_chance_X10_makeDraw : GoodIn wsX10_chance (wsV RX10 162 RX10 yX10_makeDraw wsX10_makeDraw) := goodIn_app (goodIn_of _ (by decide +kernel)) ggX10_chance_X10_makeDraw
set_option maxRecDepth 20000 in
theorem ggX10_chance_X10_isFrom : GoodIn wsX10_chance wsX10_isFrom := goodIn_r _ [83] (by decide +kernel) (by decide +kernel)
set_option maxRecDepth 20000 in
theorem gX10_chance_X10_isFrom : GoodIn wsX10_chance (va_wsS RX10 58 yX10_isFrom wsX10_isFrom) := goodIn_app (goodIn_of _ (by decide +kernel)) ggX10_chance_X10_isFrom
set_option maxRecDepth 20000 in
theorem ggX10_chance_X10_fraction : GoodIn wsX10_chance wsX10_fraction := goodIn_r _ [87, 88, 89, 90, 91, 10, 92, 93, 94, 29, 95, 96, 97, 98, 99, 100, 101, 102, 103, 104, 105] (by decide +kernel) (by decide +kernel)
set_option maxRecDepth 20000 in
theorem gX10_chance_X10_fraction : GoodIn wsX10_chance (wsV RX10 136 RX10 yX10_fraction wsX10_fraction) := goodIn_app (goodIn_of _ (by decide +kernel)) ggX10_chance_X10_fraction
theorem dX10_chance_0 : decode cX10_chance 0 = .ok (.aload_n 0, 1) := by decide +kernel
theorem dX10_chance_1 : decode cX10_chance 1 = .ok (.invokevirtual 162, 3) := by decide +kernel
theorem dX10_chance_4 : decode cX10_chance 4 = .ok (.ifCond .eq 20, 3) := by decide +kernel
theorem dX10_chance_7 : decode cX10_chance 7 = .ok (.iload_n 1, 1) := by decide +kernel
theorem dX10_chance_8 : decode cX10_chance 8 = .ok (.iconst 0, 1) := by decide +kernel
theorem dX10_chance_9 : decode cX10_chance 9 = .ok (.aload_n 0, 1) := by decide +kernel
theorem dX10_chance_10 : decode cX10_chance 10 = .ok (.getfield 36, 3) := by decide +kernel
theorem dX10_chance_13 : decode cX10_chance 13 = .ok (.getfield 166, 3) := by decide +kernel
theorem dX10_chance_16 : decode cX10_chance 16 = .ok (.iconst 1, 1) := by decide +kernel
theorem dX10_chance_17 : decode cX10_chance 17 = .ok (.isub, 1) := by decide +kernel
theorem dX10_chance_18 : decode cX10_chance 18 = .ok (.invokestatic 58, 3) := by decide +kernel
theorem dX10_chance_21 : decode cX10_chance 21 = .ok (.ifCond .ne 6, 3) := by decide +kernel
theorem dX10_chance_24 : decode cX10_chance 24 = .ok (.ldc 127, 2) := by decide +kernel
theorem dX10_chance_26 : decode cX10_chance 26 = .ok (.ireturn, 1) := by decide +kernel
theorem dX10_chance_27 : decode cX10_chance 27 = .ok (.aload_n 0, 1) := by decide +kernel
theorem dX10_chance_28 : decode cX10_chance 28 = .ok (.aload_n 0, 1) := by decide +kernel
theorem dX10_chance_29 : decode cX10_chance 29 = .ok (.getfield 36, 3) := by decide +kernel
theorem dX10_chance_32 : decode cX10_chance 32 = .ok (.getfield 167, 3) := by decide +kernel
theorem dX10_chance_35 : decode cX10_chance 35 = .ok (.iload_n 1, 1) := by decide +kernel
theorem dX10_chance_36 : decode cX10_chance 36 = .ok (.iconst 1, 1) := by decide +kernel
theorem dX10_chance_37 : decode cX10_chance 37 = .ok (.iadd, 1) := by decide +kernel
theorem dX10_chance_38 : decode cX10_chance 38 = .ok (.laload, 1) := by decide +kernel
theorem dX10_chance_39 : decode cX10_chance 39 = .ok (.aload_n 0, 1) := by decide +kernel
theorem dX10_chance_40 : decode cX10_chance 40 = .ok (.getfield 36, 3) := by decide +kernel
theorem dX10_chance_43 : decode cX10_chance 43 = .ok (.getfield 167, 3) := by decide +kernel
theorem dX10_chance_46 : decode cX10_chance 46 = .ok (.iload_n 1, 1) := by decide +kernel
theorem dX10_chance_47 : decode cX10_chance 47 = .ok (.laload, 1) := by decide +kernel
theorem dX10_chance_48 : decode cX10_chance 48 = .ok (.lsub, 1) := by decide +kernel
theorem dX10_chance_49 : decode cX10_chance 49 = .ok (.aload_n 0, 1) := by decide +kernel
theorem dX10_chance_50 : decode cX10_chance 50 = .ok (.getfield 29, 3) := by decide +kernel
theorem dX10_chance_53 : decode cX10_chance 53 = .ok (.getfield 132, 3) := by decide +kernel
theorem dX10_chance_56 : decode cX10_chance 56 = .ok (.invokevirtual 136, 3) := by decide +kernel
theorem dX10_chance_59 : decode cX10_chance 59 = .ok (.ireturn, 1) := by decide +kernel
set_option maxRecDepth 20000 in
theorem ggX10_road_X10_isPlace : GoodIn wsX10_road wsX10_isPlace := goodIn_r _ [8, 9, 10, 7, 11] (by decide +kernel) (by decide +kernel)
set_option maxRecDepth 20000 in
theorem gX10_road_X10_isPlace : GoodIn wsX10_road (va_wsS RX10 174 yX10_isPlace wsX10_isPlace) := goodIn_app (goodIn_of _ (by decide +kernel)) ggX10_road_X10_isPlace
set_option maxRecDepth 20000 in
theorem ggX10_road_X10_isFrom : GoodIn wsX10_road wsX10_isFrom := goodIn_r _ [11] (by decide +kernel) (by decide +kernel)
set_option maxRecDepth 20000 in
theorem gX10_road_X10_isFrom : GoodIn wsX10_road (va_wsS RX10 58 yX10_isFrom wsX10_isFrom) := goodIn_app (goodIn_of _ (by decide +kernel)) ggX10_road_X10_isFrom
set_option maxRecDepth 20000 in
theorem ggX10_road_X5_add : GoodIn wsX10_road wsX5_add := goodIn_r _ [16, 17, 18, 19, 20, 35, 36, 37, 38, 39, 40, 41] (by decide +kernel) (by decide +kernel)
set_option maxRecDepth 20000 in
theorem gX10_road_X5_add : GoodIn wsX10_road (wsV RX10 184 RX5 yX5_add wsX5_add) := goodIn_app (goodIn_of _ (by decide +kernel)) ggX10_road_X5_add
theorem dX10_road_0 : decode cX10_road 0 = .ok (.iload_n 1, 1) := by decide +kernel
theorem dX10_road_1 : decode cX10_road 1 = .ok (.invokestatic 174, 3) := by decide +kernel
theorem dX10_road_4 : decode cX10_road 4 = .ok (.ifCond .eq 19, 3) := by decide +kernel
theorem dX10_road_7 : decode cX10_road 7 = .ok (.iload_n 2, 1) := by decide +kernel
theorem dX10_road_8 : decode cX10_road 8 = .ok (.invokestatic 174, 3) := by decide +kernel
theorem dX10_road_11 : decode cX10_road 11 = .ok (.ifCond .eq 12, 3) := by decide +kernel
theorem dX10_road_14 : decode cX10_road 14 = .ok (.iload_n 1, 1) := by decide +kernel
theorem dX10_road_15 : decode cX10_road 15 = .ok (.iload_n 2, 1) := by decide +kernel
theorem dX10_road_16 : decode cX10_road 16 = .ok (.if_icmp .eq 7, 3) := by decide +kernel
theorem dX10_road_19 : decode cX10_road 19 = .ok (.iconst 1, 1) := by decide +kernel
theorem dX10_road_20 : decode cX10_road 20 = .ok (.goto 4, 3) := by decide +kernel
theorem dX10_road_23 : decode cX10_road 23 = .ok (.iconst 0, 1) := by decide +kernel
theorem dX10_road_24 : decode cX10_road 24 = .ok (.istore 4, 2) := by decide +kernel
theorem dX10_road_26 : decode cX10_road 26 = .ok (.iload 4, 2) := by decide +kernel
theorem dX10_road_28 : decode cX10_road 28 = .ok (.ifCond .eq 28, 3) := by decide +kernel
theorem dX10_road_31 : decode cX10_road 31 = .ok (.iload_n 3, 1) := by decide +kernel
theorem dX10_road_32 : decode cX10_road 32 = .ok (.iconst 1, 1) := by decide +kernel
theorem dX10_road_33 : decode cX10_road 33 = .ok (.bipush 100, 2) := by decide +kernel
theorem dX10_road_35 : decode cX10_road 35 = .ok (.invokestatic 58, 3) := by decide +kernel
theorem dX10_road_38 : decode cX10_road 38 = .ok (.ifCond .eq 18, 3) := by decide +kernel
theorem dX10_road_41 : decode cX10_road 41 = .ok (.aload_n 0, 1) := by decide +kernel
theorem dX10_road_42 : decode cX10_road 42 = .ok (.getfield 10, 3) := by decide +kernel
theorem dX10_road_45 : decode cX10_road 45 = .ok (.getfield 177, 3) := by decide +kernel
theorem dX10_road_48 : decode cX10_road 48 = .ok (.getfield 181, 3) := by decide +kernel
theorem dX10_road_51 : decode cX10_road 51 = .ok (.bipush 16, 2) := by decide +kernel
theorem dX10_road_53 : decode cX10_road 53 = .ok (.if_icmp .lt 6, 3) := by decide +kernel
theorem dX10_road_56 : decode cX10_road 56 = .ok (.ldc 78, 2) := by decide +kernel
theorem dX10_road_58 : decode cX10_road 58 = .ok (.ireturn, 1) := by decide +kernel
theorem dX10_road_59 : decode cX10_road 59 = .ok (.aload_n 0, 1) := by decide +kernel
theorem dX10_road_60 : decode cX10_road 60 = .ok (.getfield 10, 3) := by decide +kernel
theorem dX10_road_63 : decode cX10_road 63 = .ok (.getfield 177, 3) := by decide +kernel
theorem dX10_road_66 : decode cX10_road 66 = .ok (.iload_n 1, 1) := by decide +kernel
theorem dX10_road_67 : decode cX10_road 67 = .ok (.iload_n 2, 1) := by decide +kernel
theorem dX10_road_68 : decode cX10_road 68 = .ok (.iload_n 3, 1) := by decide +kernel
theorem dX10_road_69 : decode cX10_road 69 = .ok (.invokevirtual 184, 3) := by decide +kernel
theorem dX10_road_72 : decode cX10_road 72 = .ok (.ireturn, 1) := by decide +kernel
set_option maxRecDepth 20000 in
theorem ggX10_bar_X10_isFrom : GoodIn wsX10_bar wsX10_isFrom := goodIn_r _ [9] (by decide +kernel) (by decide +kernel)
set_option maxRecDepth 20000 in
theorem gX10_bar_X10_isFrom : GoodIn wsX10_bar (va_wsS RX10 58 yX10_isFrom wsX10_isFrom) := goodIn_app (goodIn_of _ (by decide +kernel)) ggX10_bar_X10_isFrom
theorem dX10_bar_0 : decode cX10_bar 0 = .ok (.aload_n 0, 1) := by decide +kernel
theorem dX10_bar_1 : decode cX10_bar 1 = .ok (.getfield 10, 3) := by decide +kernel
theorem dX10_bar_4 : decode cX10_bar 4 = .ok (.getfield 177, 3) := by decide +kernel
theorem dX10_bar_7 : decode cX10_bar 7 = .ok (.astore_n 3, 1) := by decide +kernel
theorem dX10_bar_8 : decode cX10_bar 8 = .ok (.iload_n 1, 1) := by decide +kernel
theorem dX10_bar_9 : decode cX10_bar 9 = .ok (.iconst 0, 1) := by decide +kernel
theorem dX10_bar_10 : decode cX10_bar 10 = .ok (.aload_n 3, 1) := by decide +kernel
theorem dX10_bar_11 : decode cX10_bar 11 = .ok (.getfield 181, 3) := by decide +kernel
theorem dX10_bar_14 : decode cX10_bar 14 = .ok (.iconst 1, 1) := by decide +kernel
theorem dX10_bar_15 : decode cX10_bar 15 = .ok (.isub, 1) := by decide +kernel
theorem dX10_bar_16 : decode cX10_bar 16 = .ok (.invokestatic 58, 3) := by decide +kernel
theorem dX10_bar_19 : decode cX10_bar 19 = .ok (.ifCond .ne 6, 3) := by decide +kernel
theorem dX10_bar_22 : decode cX10_bar 22 = .ok (.ldc 78, 2) := by decide +kernel
theorem dX10_bar_24 : decode cX10_bar 24 = .ok (.ireturn, 1) := by decide +kernel
theorem dX10_bar_25 : decode cX10_bar 25 = .ok (.iconst 1, 1) := by decide +kernel
theorem dX10_bar_26 : decode cX10_bar 26 = .ok (.iload_n 1, 1) := by decide +kernel
theorem dX10_bar_27 : decode cX10_bar 27 = .ok (.ishl, 1) := by decide +kernel
theorem dX10_bar_28 : decode cX10_bar 28 = .ok (.istore 4, 2) := by decide +kernel
theorem dX10_bar_30 : decode cX10_bar 30 = .ok (.aload_n 3, 1) := by decide +kernel
theorem dX10_bar_31 : decode cX10_bar 31 = .ok (.getfield 187, 3) := by decide +kernel
theorem dX10_bar_34 : decode cX10_bar 34 = .ok (.iload 4, 2) := by decide +kernel
theorem dX10_bar_36 : decode cX10_bar 36 = .ok (.iand, 1) := by decide +kernel
theorem dX10_bar_37 : decode cX10_bar 37 = .ok (.ifCond .eq 7, 3) := by decide +kernel
theorem dX10_bar_40 : decode cX10_bar 40 = .ok (.iconst 1, 1) := by decide +kernel
theorem dX10_bar_41 : decode cX10_bar 41 = .ok (.goto 4, 3) := by decide +kernel
theorem dX10_bar_44 : decode cX10_bar 44 = .ok (.iconst 0, 1) := by decide +kernel
theorem dX10_bar_45 : decode cX10_bar 45 = .ok (.istore 5, 2) := by decide +kernel
theorem dX10_bar_47 : decode cX10_bar 47 = .ok (.aload_n 3, 1) := by decide +kernel
theorem dX10_bar_48 : decode cX10_bar 48 = .ok (.iload_n 2, 1) := by decide +kernel
theorem dX10_bar_49 : decode cX10_bar 49 = .ok (.ifCond .eq 13, 3) := by decide +kernel
theorem dX10_bar_52 : decode cX10_bar 52 = .ok (.aload_n 3, 1) := by decide +kernel
theorem dX10_bar_53 : decode cX10_bar 53 = .ok (.getfield 187, 3) := by decide +kernel
theorem dX10_bar_56 : decode cX10_bar 56 = .ok (.iload 4, 2) := by decide +kernel
theorem dX10_bar_58 : decode cX10_bar 58 = .ok (.ior, 1) := by decide +kernel
theorem dX10_bar_59 : decode cX10_bar 59 = .ok (.goto 12, 3) := by decide +kernel
theorem dX10_bar_62 : decode cX10_bar 62 = .ok (.aload_n 3, 1) := by decide +kernel
theorem dX10_bar_63 : decode cX10_bar 63 = .ok (.getfield 187, 3) := by decide +kernel
theorem dX10_bar_66 : decode cX10_bar 66 = .ok (.iload 4, 2) := by decide +kernel
theorem dX10_bar_68 : decode cX10_bar 68 = .ok (.iconst (-1), 1) := by decide +kernel
theorem dX10_bar_69 : decode cX10_bar 69 = .ok (.ixor, 1) := by decide +kernel
theorem dX10_bar_70 : decode cX10_bar 70 = .ok (.iand, 1) := by decide +kernel
theorem dX10_bar_71 : decode cX10_bar 71 = .ok (.putfield 187, 3) := by decide +kernel
theorem dX10_bar_74 : decode cX10_bar 74 = .ok (.iload 5, 2) := by decide +kernel
theorem dX10_bar_76 : decode cX10_bar 76 = .ok (.ireturn, 1) := by decide +kernel
set_option maxRecDepth 20000 in
theorem ggX10_shortest_X10_isPlace : GoodIn wsX10_shortest wsX10_isPlace := goodIn_r _ [9, 10, 11, 8, 12] (by decide +kernel) (by decide +kernel)
set_option maxRecDepth 20000 in
theorem gX10_shortest_X10_isPlace : GoodIn wsX10_shortest (va_wsS RX10 174 yX10_isPlace wsX10_isPlace) := goodIn_app (goodIn_of _ (by decide +kernel)) ggX10_shortest_X10_isPlace
set_option maxRecDepth 20000 in
theorem ggX10_shortest_X5_measure : GoodIn wsX10_shortest wsX5_measure := goodIn_r _ [17, 18, 19, 20, 21, 22, 23, 24, 25, 26, 27, 28, 16, 29, 30, 31, 32, 33, 48, 49, 50, 51, 52, 53, 54] (by decide +kernel) (by decide +kernel)
set_option maxRecDepth 20000 in
theorem gX10_shortest_X5_measure : GoodIn wsX10_shortest (wsV RX10 190 RX5 yX5_measure wsX5_measure) := goodIn_app (goodIn_of _ (by decide +kernel)) ggX10_shortest_X5_measure
theorem dX10_shortest_0 : decode cX10_shortest 0 = .ok (.iload_n 1, 1) := by decide +kernel
theorem dX10_shortest_1 : decode cX10_shortest 1 = .ok (.invokestatic 174, 3) := by decide +kernel
theorem dX10_shortest_4 : decode cX10_shortest 4 = .ok (.ifCond .eq 10, 3) := by decide +kernel
theorem dX10_shortest_7 : decode cX10_shortest 7 = .ok (.iload_n 2, 1) := by decide +kernel
theorem dX10_shortest_8 : decode cX10_shortest 8 = .ok (.invokestatic 174, 3) := by decide +kernel
theorem dX10_shortest_11 : decode cX10_shortest 11 = .ok (.ifCond .ne 6, 3) := by decide +kernel
theorem dX10_shortest_14 : decode cX10_shortest 14 = .ok (.ldc 78, 2) := by decide +kernel
theorem dX10_shortest_16 : decode cX10_shortest 16 = .ok (.ireturn, 1) := by decide +kernel
theorem dX10_shortest_17 : decode cX10_shortest 17 = .ok (.aload_n 0, 1) := by decide +kernel
theorem dX10_shortest_18 : decode cX10_shortest 18 = .ok (.getfield 10, 3) := by decide +kernel
theorem dX10_shortest_21 : decode cX10_shortest 21 = .ok (.getfield 177, 3) := by decide +kernel
theorem dX10_shortest_24 : decode cX10_shortest 24 = .ok (.iload_n 1, 1) := by decide +kernel
theorem dX10_shortest_25 : decode cX10_shortest 25 = .ok (.iload_n 2, 1) := by decide +kernel
theorem dX10_shortest_26 : decode cX10_shortest 26 = .ok (.iconst 0, 1) := by decide +kernel
theorem dX10_shortest_27 : decode cX10_shortest 27 = .ok (.invokevirtual 190, 3) := by decide +kernel
theorem dX10_shortest_30 : decode cX10_shortest 30 = .ok (.istore_n 3, 1) := by decide +kernel
theorem dX10_shortest_31 : decode cX10_shortest 31 = .ok (.iload_n 3, 1) := by decide +kernel
theorem dX10_shortest_32 : decode cX10_shortest 32 = .ok (.ldc 193, 2) := by decide +kernel
theorem dX10_shortest_34 : decode cX10_shortest 34 = .ok (.if_icmp .lt 8, 3) := by decide +kernel
theorem dX10_shortest_37 : decode cX10_shortest 37 = .ok (.ldc 127, 2) := by decide +kernel
theorem dX10_shortest_39 : decode cX10_shortest 39 = .ok (.goto 4, 3) := by decide +kernel
theorem dX10_shortest_42 : decode cX10_shortest 42 = .ok (.iload_n 3, 1) := by decide +kernel
theorem dX10_shortest_43 : decode cX10_shortest 43 = .ok (.ireturn, 1) := by decide +kernel
set_option maxRecDepth 20000 in
theorem ggX10_bars_X10_isPlace : GoodIn wsX10_bars wsX10_isPlace := goodIn_r _ [8, 9, 10, 7, 11] (by decide +kernel) (by decide +kernel)
set_option maxRecDepth 20000 in
theorem gX10_bars_X10_isPlace : GoodIn wsX10_bars (va_wsS RX10 174 yX10_isPlace wsX10_isPlace) := goodIn_app (goodIn_of _ (by decide +kernel)) ggX10_bars_X10_isPlace
set_option maxRecDepth 20000 in
theorem ggX10_bars_X10_isFrom : GoodIn wsX10_bars wsX10_isFrom := goodIn_r _ [11] (by decide +kernel) (by decide +kernel)
set_option maxRecDepth 20000 in
theorem gX10_bars_X10_isFrom : GoodIn wsX10_bars (va_wsS RX10 58 yX10_isFrom wsX10_isFrom) := goodIn_app (goodIn_of _ (by decide +kernel)) ggX10_bars_X10_isFrom
set_option maxRecDepth 20000 in
theorem ggX10_bars_X0_find : GoodIn wsX10_bars wsX0_find := goodIn_r _ [16, 17, 18, 19, 20, 21, 22, 23, 15, 24, 25, 26, 27, 28, 29, 30, 31, 32, 33, 34, 35, 36, 37, 38, 39, 40, 41, 42, 43, 44, 45, 46, 47, 48, 49, 50, 51, 52, 53, 54, 55, 56, 57, 58, 59, 60, 61, 76, 77, 78, 79, 80, 81, 82, 83, 84, 85, 86] (by decide +kernel) (by decide +kernel)
set_option maxRecDepth 20000 in
theorem gX10_bars_X0_find : GoodIn wsX10_bars (wsV RX10 194 RX0 yX0_find wsX0_find) := goodIn_app (goodIn_of _ (by decide +kernel)) ggX10_bars_X0_find
theorem dX10_bars_0 : decode cX10_bars 0 = .ok (.iload_n 1, 1) := by decide +kernel
theorem dX10_bars_1 : decode cX10_bars 1 = .ok (.invokestatic 174, 3) := by decide +kernel
theorem dX10_bars_4 : decode cX10_bars 4 = .ok (.ifCond .eq 19, 3) := by decide +kernel
theorem dX10_bars_7 : decode cX10_bars 7 = .ok (.iload_n 2, 1) := by decide +kernel
theorem dX10_bars_8 : decode cX10_bars 8 = .ok (.invokestatic 174, 3) := by decide +kernel
theorem dX10_bars_11 : decode cX10_bars 11 = .ok (.ifCond .eq 12, 3) := by decide +kernel
theorem dX10_bars_14 : decode cX10_bars 14 = .ok (.iload_n 3, 1) := by decide +kernel
theorem dX10_bars_15 : decode cX10_bars 15 = .ok (.iconst 0, 1) := by decide +kernel
theorem dX10_bars_16 : decode cX10_bars 16 = .ok (.iconst 4, 1) := by decide +kernel
theorem dX10_bars_17 : decode cX10_bars 17 = .ok (.invokestatic 58, 3) := by decide +kernel
theorem dX10_bars_20 : decode cX10_bars 20 = .ok (.ifCond .ne 6, 3) := by decide +kernel
theorem dX10_bars_23 : decode cX10_bars 23 = .ok (.ldc 78, 2) := by decide +kernel
theorem dX10_bars_25 : decode cX10_bars 25 = .ok (.ireturn, 1) := by decide +kernel
theorem dX10_bars_26 : decode cX10_bars 26 = .ok (.aload_n 0, 1) := by decide +kernel
theorem dX10_bars_27 : decode cX10_bars 27 = .ok (.getfield 43, 3) := by decide +kernel
theorem dX10_bars_30 : decode cX10_bars 30 = .ok (.aload_n 0, 1) := by decide +kernel
theorem dX10_bars_31 : decode cX10_bars 31 = .ok (.getfield 10, 3) := by decide +kernel
theorem dX10_bars_34 : decode cX10_bars 34 = .ok (.getfield 177, 3) := by decide +kernel
theorem dX10_bars_37 : decode cX10_bars 37 = .ok (.iload_n 1, 1) := by decide +kernel
theorem dX10_bars_38 : decode cX10_bars 38 = .ok (.iload_n 2, 1) := by decide +kernel
theorem dX10_bars_39 : decode cX10_bars 39 = .ok (.iload_n 3, 1) := by decide +kernel
theorem dX10_bars_40 : decode cX10_bars 40 = .ok (.invokevirtual 194, 3) := by decide +kernel
theorem dX10_bars_43 : decode cX10_bars 43 = .ok (.ireturn, 1) := by decide +kernel
set_option maxRecDepth 20000 in
theorem ggX10_post_X10_isFrom : GoodIn wsX10_post wsX10_isFrom := goodIn_r _ [8] (by decide +kernel) (by decide +kernel)
set_option maxRecDepth 20000 in
theorem gX10_post_X10_isFrom : GoodIn wsX10_post (va_wsS RX10 58 yX10_isFrom wsX10_isFrom) := goodIn_app (goodIn_of _ (by decide +kernel)) ggX10_post_X10_isFrom
set_option maxRecDepth 20000 in
theorem ggX10_post_X4_add : GoodIn wsX10_post wsX4_add := goodIn_r _ [13, 14, 15, 30, 31] (by decide +kernel) (by decide +kernel)
set_option maxRecDepth 20000 in
theorem gX10_post_X4_add : GoodIn wsX10_post (wsV RX10 205 RX4 yX4_add wsX4_add) := goodIn_app (goodIn_of _ (by decide +kernel)) ggX10_post_X4_add
theorem dX10_post_0 : decode cX10_post 0 = .ok (.iload_n 1, 1) := by decide +kernel
theorem dX10_post_1 : decode cX10_post 1 = .ok (.iconst 1, 1) := by decide +kernel
theorem dX10_post_2 : decode cX10_post 2 = .ok (.bipush 8, 2) := by decide +kernel
theorem dX10_post_4 : decode cX10_post 4 = .ok (.invokestatic 58, 3) := by decide +kernel
theorem dX10_post_7 : decode cX10_post 7 = .ok (.ifCond .eq 17, 3) := by decide +kernel
theorem dX10_post_10 : decode cX10_post 10 = .ok (.aload_n 0, 1) := by decide +kernel
theorem dX10_post_11 : decode cX10_post 11 = .ok (.getfield 10, 3) := by decide +kernel
theorem dX10_post_14 : decode cX10_post 14 = .ok (.getfield 198, 3) := by decide +kernel
theorem dX10_post_17 : decode cX10_post 17 = .ok (.getfield 202, 3) := by decide +kernel
theorem dX10_post_20 : decode cX10_post 20 = .ok (.iconst 5, 1) := by decide +kernel
theorem dX10_post_21 : decode cX10_post 21 = .ok (.if_icmp .lt 6, 3) := by decide +kernel
theorem dX10_post_24 : decode cX10_post 24 = .ok (.ldc 78, 2) := by decide +kernel
theorem dX10_post_26 : decode cX10_post 26 = .ok (.ireturn, 1) := by decide +kernel
theorem dX10_post_27 : decode cX10_post 27 = .ok (.aload_n 0, 1) := by decide +kernel
theorem dX10_post_28 : decode cX10_post 28 = .ok (.getfield 10, 3) := by decide +kernel
theorem dX10_post_31 : decode cX10_post 31 = .ok (.getfield 198, 3) := by decide +kernel
theorem dX10_post_34 : decode cX10_post 34 = .ok (.iload_n 1, 1) := by decide +kernel
theorem dX10_post_35 : decode cX10_post 35 = .ok (.invokevirtual 205, 3) := by decide +kernel
theorem dX10_post_38 : decode cX10_post 38 = .ok (.ireturn, 1) := by decide +kernel
set_option maxRecDepth 20000 in
theorem ggX10_every_X10_isFrom : GoodIn wsX10_every wsX10_isFrom := goodIn_r _ [9] (by decide +kernel) (by decide +kernel)
set_option maxRecDepth 20000 in
theorem gX10_every_X10_isFrom : GoodIn wsX10_every (va_wsS RX10 58 yX10_isFrom wsX10_isFrom) := goodIn_app (goodIn_of _ (by decide +kernel)) ggX10_every_X10_isFrom
theorem dX10_every_0 : decode cX10_every 0 = .ok (.iload_n 1, 1) := by decide +kernel
theorem dX10_every_1 : decode cX10_every 1 = .ok (.iconst 0, 1) := by decide +kernel
theorem dX10_every_2 : decode cX10_every 2 = .ok (.aload_n 0, 1) := by decide +kernel
theorem dX10_every_3 : decode cX10_every 3 = .ok (.getfield 10, 3) := by decide +kernel
theorem dX10_every_6 : decode cX10_every 6 = .ok (.getfield 198, 3) := by decide +kernel
theorem dX10_every_9 : decode cX10_every 9 = .ok (.getfield 202, 3) := by decide +kernel
theorem dX10_every_12 : decode cX10_every 12 = .ok (.iconst 1, 1) := by decide +kernel
theorem dX10_every_13 : decode cX10_every 13 = .ok (.isub, 1) := by decide +kernel
theorem dX10_every_14 : decode cX10_every 14 = .ok (.invokestatic 58, 3) := by decide +kernel
theorem dX10_every_17 : decode cX10_every 17 = .ok (.ifCond .eq 13, 3) := by decide +kernel
theorem dX10_every_20 : decode cX10_every 20 = .ok (.iload_n 2, 1) := by decide +kernel
theorem dX10_every_21 : decode cX10_every 21 = .ok (.iconst 1, 1) := by decide +kernel
theorem dX10_every_22 : decode cX10_every 22 = .ok (.bipush 8, 2) := by decide +kernel
theorem dX10_every_24 : decode cX10_every 24 = .ok (.invokestatic 58, 3) := by decide +kernel
theorem dX10_every_27 : decode cX10_every 27 = .ok (.ifCond .ne 6, 3) := by decide +kernel
theorem dX10_every_30 : decode cX10_every 30 = .ok (.ldc 78, 2) := by decide +kernel
theorem dX10_every_32 : decode cX10_every 32 = .ok (.ireturn, 1) := by decide +kernel
theorem dX10_every_33 : decode cX10_every 33 = .ok (.aload_n 0, 1) := by decide +kernel
theorem dX10_every_34 : decode cX10_every 34 = .ok (.getfield 10, 3) := by decide +kernel
theorem dX10_every_37 : decode cX10_every 37 = .ok (.getfield 198, 3) := by decide +kernel
theorem dX10_every_40 : decode cX10_every 40 = .ok (.getfield 207, 3) := by decide +kernel
theorem dX10_every_43 : decode cX10_every 43 = .ok (.iload_n 1, 1) := by decide +kernel
theorem dX10_every_44 : decode cX10_every 44 = .ok (.iaload, 1) := by decide +kernel
theorem dX10_every_45 : decode cX10_every 45 = .ok (.istore_n 3, 1) := by decide +kernel
theorem dX10_every_46 : decode cX10_every 46 = .ok (.aload_n 0, 1) := by decide +kernel
theorem dX10_every_47 : decode cX10_every 47 = .ok (.getfield 10, 3) := by decide +kernel
theorem dX10_every_50 : decode cX10_every 50 = .ok (.getfield 198, 3) := by decide +kernel
theorem dX10_every_53 : decode cX10_every 53 = .ok (.getfield 207, 3) := by decide +kernel
theorem dX10_every_56 : decode cX10_every 56 = .ok (.iload_n 1, 1) := by decide +kernel
theorem dX10_every_57 : decode cX10_every 57 = .ok (.iload_n 2, 1) := by decide +kernel
theorem dX10_every_58 : decode cX10_every 58 = .ok (.iastore, 1) := by decide +kernel
theorem dX10_every_59 : decode cX10_every 59 = .ok (.iload_n 3, 1) := by decide +kernel
theorem dX10_every_60 : decode cX10_every 60 = .ok (.ireturn, 1) := by decide +kernel
set_option maxRecDepth 20000 in
theorem ggX10_visit_X10_isFrom : GoodIn wsX10_visit wsX10_isFrom := goodIn_r _ [10] (by decide +kernel) (by decide +kernel)
set_option maxRecDepth 20000 in
theorem gX10_visit_X10_isFrom : GoodIn wsX10_visit (va_wsS RX10 58 yX10_isFrom wsX10_isFrom) := goodIn_app (goodIn_of _ (by decide +kernel)) ggX10_visit_X10_isFrom
set_option maxRecDepth 20000 in
theorem ggX10_visit_X10_hostFinding : GoodIn wsX10_visit wsX10_hostFinding := goodIn_r _ [14, 15, 81, 82, 83, 84, 85, 86, 87, 88, 89, 90] (by decide +kernel) (by decide +kernel)
set_option maxRecDepth 20000 in
theorem gX10_visit_X10_hostFinding : GoodIn wsX10_visit (wsV RX10 91 RX10 yX10_hostFinding wsX10_hostFinding) := goodIn_app (goodIn_of _ (by decide +kernel)) ggX10_visit_X10_hostFinding
set_option maxRecDepth 20000 in
theorem ggX10_visit_X9_make : GoodIn wsX10_visit wsX9_make := goodIn_r _ [20, 21, 22, 23, 24, 25, 26, 27, 28, 29, 30, 31, 32, 33, 34, 35, 36, 37, 38, 39, 40, 41, 42, 43, 44, 45, 46, 47, 19, 48, 49, 50, 51, 52, 53, 54, 55, 56, 57, 58, 59, 60, 61, 62, 63, 64, 65, 66, 67, 68, 69, 70, 71, 72, 73, 74, 75, 97, 98, 99, 100, 101, 102, 103, 95, 96] (by decide +kernel) (by decide +kernel)
set_option maxRecDepth 20000 in
theorem gX10_visit_X9_make : GoodIn wsX10_visit (wsV RX10 210 RX9 yX9_make wsX9_make) := goodIn_app (goodIn_of _ (by decide +kernel)) ggX10_visit_X9_make
set_option maxRecDepth 20000 in
theorem ggX10_visit_X9_postAt : GoodIn wsX10_visit wsX9_postAt := goodIn_r _ [79, 24, 64, 80, 56, 97, 98, 99, 100, 101, 102, 103] (by decide +kernel) (by decide +kernel)
set_option maxRecDepth 20000 in
theorem gX10_visit_X9_postAt : GoodIn wsX10_visit (wsV RX10 213 RX9 yX9_postAt wsX9_postAt) := goodIn_app (goodIn_of _ (by decide +kernel)) ggX10_visit_X9_postAt
theorem dX10_visit_0 : decode cX10_visit 0 = .ok (.iload_n 1, 1) := by decide +kernel
theorem dX10_visit_1 : decode cX10_visit 1 = .ok (.iconst 0, 1) := by decide +kernel
theorem dX10_visit_2 : decode cX10_visit 2 = .ok (.sipush 1000, 3) := by decide +kernel
theorem dX10_visit_5 : decode cX10_visit 5 = .ok (.invokestatic 58, 3) := by decide +kernel
theorem dX10_visit_8 : decode cX10_visit 8 = .ok (.ifCond .ne 6, 3) := by decide +kernel
theorem dX10_visit_11 : decode cX10_visit 11 = .ok (.ldc 78, 2) := by decide +kernel
theorem dX10_visit_13 : decode cX10_visit 13 = .ok (.ireturn, 1) := by decide +kernel
theorem dX10_visit_14 : decode cX10_visit 14 = .ok (.aload_n 0, 1) := by decide +kernel
theorem dX10_visit_15 : decode cX10_visit 15 = .ok (.getfield 10, 3) := by decide +kernel
theorem dX10_visit_18 : decode cX10_visit 18 = .ok (.getfield 198, 3) := by decide +kernel
theorem dX10_visit_21 : decode cX10_visit 21 = .ok (.getfield 202, 3) := by decide +kernel
theorem dX10_visit_24 : decode cX10_visit 24 = .ok (.ifCond .ne 10, 3) := by decide +kernel
theorem dX10_visit_27 : decode cX10_visit 27 = .ok (.aload_n 0, 1) := by decide +kernel
theorem dX10_visit_28 : decode cX10_visit 28 = .ok (.ldc 119, 2) := by decide +kernel
theorem dX10_visit_30 : decode cX10_visit 30 = .ok (.invokevirtual 91, 3) := by decide +kernel
theorem dX10_visit_33 : decode cX10_visit 33 = .ok (.ireturn, 1) := by decide +kernel
theorem dX10_visit_34 : decode cX10_visit 34 = .ok (.aload_n 0, 1) := by decide +kernel
theorem dX10_visit_35 : decode cX10_visit 35 = .ok (.getfield 50, 3) := by decide +kernel
theorem dX10_visit_38 : decode cX10_visit 38 = .ok (.aload_n 0, 1) := by decide +kernel
theorem dX10_visit_39 : decode cX10_visit 39 = .ok (.getfield 10, 3) := by decide +kernel
theorem dX10_visit_42 : decode cX10_visit 42 = .ok (.getfield 198, 3) := by decide +kernel
theorem dX10_visit_45 : decode cX10_visit 45 = .ok (.invokevirtual 210, 3) := by decide +kernel
theorem dX10_visit_48 : decode cX10_visit 48 = .ok (.aload_n 0, 1) := by decide +kernel
theorem dX10_visit_49 : decode cX10_visit 49 = .ok (.getfield 50, 3) := by decide +kernel
theorem dX10_visit_52 : decode cX10_visit 52 = .ok (.iload_n 1, 1) := by decide +kernel
theorem dX10_visit_53 : decode cX10_visit 53 = .ok (.invokevirtual 213, 3) := by decide +kernel
theorem dX10_visit_56 : decode cX10_visit 56 = .ok (.ireturn, 1) := by decide +kernel
set_option maxRecDepth 20000 in
theorem ggX10_haunt_X10_isFrom : GoodIn wsX10_haunt wsX10_isFrom := goodIn_r _ [8] (by decide +kernel) (by decide +kernel)
set_option maxRecDepth 20000 in
theorem gX10_haunt_X10_isFrom : GoodIn wsX10_haunt (va_wsS RX10 58 yX10_isFrom wsX10_isFrom) := goodIn_app (goodIn_of _ (by decide +kernel)) ggX10_haunt_X10_isFrom
set_option maxRecDepth 20000 in
theorem ggX10_haunt_X2_add : GoodIn wsX10_haunt wsX2_add := goodIn_r _ [13, 14, 15, 16, 31, 32, 33] (by decide +kernel) (by decide +kernel)
set_option maxRecDepth 20000 in
theorem gX10_haunt_X2_add : GoodIn wsX10_haunt (wsV RX10 223 RX2 yX2_add wsX2_add) := goodIn_app (goodIn_of _ (by decide +kernel)) ggX10_haunt_X2_add
theorem dX10_haunt_0 : decode cX10_haunt 0 = .ok (.iload_n 1, 1) := by decide +kernel
theorem dX10_haunt_1 : decode cX10_haunt 1 = .ok (.iconst 1, 1) := by decide +kernel
theorem dX10_haunt_2 : decode cX10_haunt 2 = .ok (.sipush 1023, 3) := by decide +kernel
theorem dX10_haunt_5 : decode cX10_haunt 5 = .ok (.invokestatic 58, 3) := by decide +kernel
theorem dX10_haunt_8 : decode cX10_haunt 8 = .ok (.ifCond .eq 18, 3) := by decide +kernel
theorem dX10_haunt_11 : decode cX10_haunt 11 = .ok (.iload_n 2, 1) := by decide +kernel
theorem dX10_haunt_12 : decode cX10_haunt 12 = .ok (.iconst 1, 1) := by decide +kernel
theorem dX10_haunt_13 : decode cX10_haunt 13 = .ok (.sipush 1000, 3) := by decide +kernel
theorem dX10_haunt_16 : decode cX10_haunt 16 = .ok (.invokestatic 58, 3) := by decide +kernel
theorem dX10_haunt_19 : decode cX10_haunt 19 = .ok (.ifCond .eq 7, 3) := by decide +kernel
theorem dX10_haunt_22 : decode cX10_haunt 22 = .ok (.iconst 1, 1) := by decide +kernel
theorem dX10_haunt_23 : decode cX10_haunt 23 = .ok (.goto 4, 3) := by decide +kernel
theorem dX10_haunt_26 : decode cX10_haunt 26 = .ok (.iconst 0, 1) := by decide +kernel
theorem dX10_haunt_27 : decode cX10_haunt 27 = .ok (.istore_n 3, 1) := by decide +kernel
theorem dX10_haunt_28 : decode cX10_haunt 28 = .ok (.iload_n 3, 1) := by decide +kernel
theorem dX10_haunt_29 : decode cX10_haunt 29 = .ok (.ifCond .eq 18, 3) := by decide +kernel
theorem dX10_haunt_32 : decode cX10_haunt 32 = .ok (.aload_n 0, 1) := by decide +kernel
theorem dX10_haunt_33 : decode cX10_haunt 33 = .ok (.getfield 10, 3) := by decide +kernel
theorem dX10_haunt_36 : decode cX10_haunt 36 = .ok (.getfield 216, 3) := by decide +kernel
theorem dX10_haunt_39 : decode cX10_haunt 39 = .ok (.getfield 220, 3) := by decide +kernel
theorem dX10_haunt_42 : decode cX10_haunt 42 = .ok (.bipush 20, 2) := by decide +kernel
theorem dX10_haunt_44 : decode cX10_haunt 44 = .ok (.if_icmp .lt 6, 3) := by decide +kernel
theorem dX10_haunt_47 : decode cX10_haunt 47 = .ok (.ldc 78, 2) := by decide +kernel
theorem dX10_haunt_49 : decode cX10_haunt 49 = .ok (.ireturn, 1) := by decide +kernel
theorem dX10_haunt_50 : decode cX10_haunt 50 = .ok (.aload_n 0, 1) := by decide +kernel
theorem dX10_haunt_51 : decode cX10_haunt 51 = .ok (.getfield 10, 3) := by decide +kernel
theorem dX10_haunt_54 : decode cX10_haunt 54 = .ok (.getfield 216, 3) := by decide +kernel
theorem dX10_haunt_57 : decode cX10_haunt 57 = .ok (.iload_n 1, 1) := by decide +kernel
theorem dX10_haunt_58 : decode cX10_haunt 58 = .ok (.iload_n 2, 1) := by decide +kernel
theorem dX10_haunt_59 : decode cX10_haunt 59 = .ok (.invokevirtual 223, 3) := by decide +kernel
theorem dX10_haunt_62 : decode cX10_haunt 62 = .ok (.ireturn, 1) := by decide +kernel
set_option maxRecDepth 20000 in
theorem ggX10_caught_X10_isFrom : GoodIn wsX10_caught wsX10_isFrom := goodIn_r _ [7] (by decide +kernel) (by decide +kernel)
set_option maxRecDepth 20000 in
theorem gX10_caught_X10_isFrom : GoodIn wsX10_caught (va_wsS RX10 58 yX10_isFrom wsX10_isFrom) := goodIn_app (goodIn_of _ (by decide +kernel)) ggX10_caught_X10_isFrom
set_option maxRecDepth 20000 in
theorem ggX10_caught_X2_weightCaught : GoodIn wsX10_caught wsX2_weightCaught := goodIn_r _ [12, 13, 14, 15, 30, 31, 32] (by decide +kernel) (by decide +kernel)
set_option maxRecDepth 20000 in
theorem gX10_caught_X2_weightCaught : GoodIn wsX10_caught (wsV RX10 226 RX2 yX2_weightCaught wsX2_weightCaught) := goodIn_app (goodIn_of _ (by decide +kernel)) ggX10_caught_X2_weightCaught
theorem dX10_caught_0 : decode cX10_caught 0 = .ok (.iload_n 1, 1) := by decide +kernel
theorem dX10_caught_1 : decode cX10_caught 1 = .ok (.iconst 0, 1) := by decide +kernel
theorem dX10_caught_2 : decode cX10_caught 2 = .ok (.sipush 1023, 3) := by decide +kernel
theorem dX10_caught_5 : decode cX10_caught 5 = .ok (.invokestatic 58, 3) := by decide +kernel
theorem dX10_caught_8 : decode cX10_caught 8 = .ok (.ifCond .eq 17, 3) := by decide +kernel
theorem dX10_caught_11 : decode cX10_caught 11 = .ok (.aload_n 0, 1) := by decide +kernel
theorem dX10_caught_12 : decode cX10_caught 12 = .ok (.getfield 10, 3) := by decide +kernel
theorem dX10_caught_15 : decode cX10_caught 15 = .ok (.getfield 216, 3) := by decide +kernel
theorem dX10_caught_18 : decode cX10_caught 18 = .ok (.iload_n 1, 1) := by decide +kernel
theorem dX10_caught_19 : decode cX10_caught 19 = .ok (.invokevirtual 226, 3) := by decide +kernel
theorem dX10_caught_22 : decode cX10_caught 22 = .ok (.goto 5, 3) := by decide +kernel
theorem dX10_caught_25 : decode cX10_caught 25 = .ok (.ldc 78, 2) := by decide +kernel
theorem dX10_caught_27 : decode cX10_caught 27 = .ok (.ireturn, 1) := by decide +kernel
set_option maxRecDepth 20000 in
theorem ggX10_traps_X10_isFrom : GoodIn wsX10_traps wsX10_isFrom := goodIn_r _ [7] (by decide +kernel) (by decide +kernel)
set_option maxRecDepth 20000 in
theorem gX10_traps_X10_isFrom : GoodIn wsX10_traps (va_wsS RX10 58 yX10_isFrom wsX10_isFrom) := goodIn_app (goodIn_of _ (by decide +kernel)) ggX10_traps_X10_isFrom
set_option maxRecDepth 20000 in
theorem ggX10_traps_X2_heaviestSet : GoodIn wsX10_traps wsX2_heaviestSet := goodIn_r _ [12, 13, 14, 15, 16, 17, 18, 19, 20, 21, 22, 11, 23, 24, 25, 26, 41, 42, 43] (by decide +kernel) (by decide +kernel)
set_option maxRecDepth 20000 in
theorem gX10_traps_X2_heaviestSet : GoodIn wsX10_traps (wsV RX10 229 RX2 yX2_heaviestSet wsX2_heaviestSet) := goodIn_app (goodIn_of _ (by decide +kernel)) ggX10_traps_X2_heaviestSet
theorem dX10_traps_0 : decode cX10_traps 0 = .ok (.iload_n 1, 1) := by decide +kernel
theorem dX10_traps_1 : decode cX10_traps 1 = .ok (.iconst 0, 1) := by decide +kernel
theorem dX10_traps_2 : decode cX10_traps 2 = .ok (.bipush 10, 2) := by decide +kernel
theorem dX10_traps_4 : decode cX10_traps 4 = .ok (.invokestatic 58, 3) := by decide +kernel
theorem dX10_traps_7 : decode cX10_traps 7 = .ok (.ifCond .eq 17, 3) := by decide +kernel
theorem dX10_traps_10 : decode cX10_traps 10 = .ok (.aload_n 0, 1) := by decide +kernel
theorem dX10_traps_11 : decode cX10_traps 11 = .ok (.getfield 10, 3) := by decide +kernel
theorem dX10_traps_14 : decode cX10_traps 14 = .ok (.getfield 216, 3) := by decide +kernel
theorem dX10_traps_17 : decode cX10_traps 17 = .ok (.iload_n 1, 1) := by decide +kernel
theorem dX10_traps_18 : decode cX10_traps 18 = .ok (.invokevirtual 229, 3) := by decide +kernel
theorem dX10_traps_21 : decode cX10_traps 21 = .ok (.goto 5, 3) := by decide +kernel
theorem dX10_traps_24 : decode cX10_traps 24 = .ok (.ldc 78, 2) := by decide +kernel
theorem dX10_traps_26 : decode cX10_traps 26 = .ok (.ireturn, 1) := by decide +kernel
set_option maxRecDepth 20000 in
theorem ggX10_cover_X2_smallestCover : GoodIn wsX10_cover wsX2_smallestCover := goodIn_r _ [7, 8, 9, 10, 11, 12, 13, 14, 15, 16, 17, 6, 18, 19, 20, 35, 36, 37] (by decide +kernel) (by decide +kernel)
set_option maxRecDepth 20000 in
theorem gX10_cover_X2_smallestCover : GoodIn wsX10_cover (wsV RX10 232 RX2 yX2_smallestCover wsX2_smallestCover) := goodIn_app (goodIn_of _ (by decide +kernel)) ggX10_cover_X2_smallestCover
theorem dX10_cover_0 : decode cX10_cover 0 = .ok (.aload_n 0, 1) := by decide +kernel
theorem dX10_cover_1 : decode cX10_cover 1 = .ok (.getfield 10, 3) := by decide +kernel
theorem dX10_cover_4 : decode cX10_cover 4 = .ok (.getfield 216, 3) := by decide +kernel
theorem dX10_cover_7 : decode cX10_cover 7 = .ok (.invokevirtual 232, 3) := by decide +kernel
theorem dX10_cover_10 : decode cX10_cover 10 = .ok (.ireturn, 1) := by decide +kernel
set_option maxRecDepth 20000 in
theorem ggX10_sheet_X10_isSheet : GoodIn wsX10_sheet wsX10_isSheet := goodIn_r _ [7, 8, 9, 6, 10] (by decide +kernel) (by decide +kernel)
set_option maxRecDepth 20000 in
theorem gX10_sheet_X10_isSheet : GoodIn wsX10_sheet (va_wsS RX10 235 yX10_isSheet wsX10_isSheet) := goodIn_app (goodIn_of _ (by decide +kernel)) ggX10_sheet_X10_isSheet
set_option maxRecDepth 20000 in
theorem ggX10_sheet_X10_isSort : GoodIn wsX10_sheet wsX10_isSort := goodIn_r _ [13, 8, 9, 6, 10] (by decide +kernel) (by decide +kernel)
set_option maxRecDepth 20000 in
theorem gX10_sheet_X10_isSort : GoodIn wsX10_sheet (va_wsS RX10 238 yX10_isSort wsX10_isSort) := goodIn_app (goodIn_of _ (by decide +kernel)) ggX10_sheet_X10_isSort
set_option maxRecDepth 20000 in
theorem ggX10_sheet_X10_hostFinding : GoodIn wsX10_sheet wsX10_hostFinding := goodIn_r _ [17, 18, 31, 32, 33, 34, 35, 36, 37, 38, 39, 40] (by decide +kernel) (by decide +kernel)
set_option maxRecDepth 20000 in
theorem gX10_sheet_X10_hostFinding : GoodIn wsX10_sheet (wsV RX10 91 RX10 yX10_hostFinding wsX10_hostFinding) := goodIn_app (goodIn_of _ (by decide +kernel)) ggX10_sheet_X10_hostFinding
set_option maxRecDepth 20000 in
theorem ggX10_sheet_X7_renew : GoodIn wsX10_sheet wsX7_renew := goodIn_r _ [23, 24, 25, 26, 27, 28, 29, 30, 41, 42, 43] (by decide +kernel) (by decide +kernel)
set_option maxRecDepth 20000 in
theorem gX10_sheet_X7_renew : GoodIn wsX10_sheet (wsV RX10 242 RX7 yX7_renew wsX7_renew) := goodIn_app (goodIn_of _ (by decide +kernel)) ggX10_sheet_X7_renew
theorem dX10_sheet_0 : decode cX10_sheet 0 = .ok (.iload_n 1, 1) := by decide +kernel
theorem dX10_sheet_1 : decode cX10_sheet 1 = .ok (.invokestatic 235, 3) := by decide +kernel
theorem dX10_sheet_4 : decode cX10_sheet 4 = .ok (.ifCond .eq 16, 3) := by decide +kernel
theorem dX10_sheet_7 : decode cX10_sheet 7 = .ok (.iload_n 2, 1) := by decide +kernel
theorem dX10_sheet_8 : decode cX10_sheet 8 = .ok (.invokestatic 238, 3) := by decide +kernel
theorem dX10_sheet_11 : decode cX10_sheet 11 = .ok (.ifCond .eq 9, 3) := by decide +kernel
theorem dX10_sheet_14 : decode cX10_sheet 14 = .ok (.iload_n 3, 1) := by decide +kernel
theorem dX10_sheet_15 : decode cX10_sheet 15 = .ok (.bipush 40, 2) := by decide +kernel
theorem dX10_sheet_17 : decode cX10_sheet 17 = .ok (.if_icmp .le 6, 3) := by decide +kernel
theorem dX10_sheet_20 : decode cX10_sheet 20 = .ok (.ldc 78, 2) := by decide +kernel
theorem dX10_sheet_22 : decode cX10_sheet 22 = .ok (.ireturn, 1) := by decide +kernel
theorem dX10_sheet_23 : decode cX10_sheet 23 = .ok (.iload_n 3, 1) := by decide +kernel
theorem dX10_sheet_24 : decode cX10_sheet 24 = .ok (.ifCond .ge 10, 3) := by decide +kernel
theorem dX10_sheet_27 : decode cX10_sheet 27 = .ok (.aload_n 0, 1) := by decide +kernel
theorem dX10_sheet_28 : decode cX10_sheet 28 = .ok (.ldc 241, 2) := by decide +kernel
theorem dX10_sheet_30 : decode cX10_sheet 30 = .ok (.invokevirtual 91, 3) := by decide +kernel
theorem dX10_sheet_33 : decode cX10_sheet 33 = .ok (.ireturn, 1) := by decide +kernel
theorem dX10_sheet_34 : decode cX10_sheet 34 = .ok (.aload_n 0, 1) := by decide +kernel
theorem dX10_sheet_35 : decode cX10_sheet 35 = .ok (.getfield 22, 3) := by decide +kernel
theorem dX10_sheet_38 : decode cX10_sheet 38 = .ok (.iload_n 1, 1) := by decide +kernel
theorem dX10_sheet_39 : decode cX10_sheet 39 = .ok (.iload_n 2, 1) := by decide +kernel
theorem dX10_sheet_40 : decode cX10_sheet 40 = .ok (.iload_n 3, 1) := by decide +kernel
theorem dX10_sheet_41 : decode cX10_sheet 41 = .ok (.invokevirtual 242, 3) := by decide +kernel
theorem dX10_sheet_44 : decode cX10_sheet 44 = .ok (.iload_n 3, 1) := by decide +kernel
theorem dX10_sheet_45 : decode cX10_sheet 45 = .ok (.ireturn, 1) := by decide +kernel
set_option maxRecDepth 20000 in
theorem ggX10_write_X10_isSheet : GoodIn wsX10_write wsX10_isSheet := goodIn_r _ [9, 10, 11, 8, 12] (by decide +kernel) (by decide +kernel)
set_option maxRecDepth 20000 in
theorem gX10_write_X10_isSheet : GoodIn wsX10_write (va_wsS RX10 235 yX10_isSheet wsX10_isSheet) := goodIn_app (goodIn_of _ (by decide +kernel)) ggX10_write_X10_isSheet
set_option maxRecDepth 20000 in
theorem ggX10_write_X7_isMissing : GoodIn wsX10_write wsX7_isMissing := goodIn_r _ [17, 18, 43, 44, 45] (by decide +kernel) (by decide +kernel)
set_option maxRecDepth 20000 in
theorem gX10_write_X7_isMissing : GoodIn wsX10_write (wsV RX10 246 RX7 yX7_isMissing wsX7_isMissing) := goodIn_app (goodIn_of _ (by decide +kernel)) ggX10_write_X7_isMissing
set_option maxRecDepth 20000 in
theorem ggX10_write_X10_hostFinding : GoodIn wsX10_write wsX10_hostFinding := goodIn_r _ [22, 23, 33, 34, 35, 36, 37, 38, 39, 40, 41, 42] (by decide +kernel) (by decide +kernel)
set_option maxRecDepth 20000 in
theorem gX10_write_X10_hostFinding : GoodIn wsX10_write (wsV RX10 91 RX10 yX10_hostFinding wsX10_hostFinding) := goodIn_app (goodIn_of _ (by decide +kernel)) ggX10_write_X10_hostFinding
set_option maxRecDepth 20000 in
theorem ggX10_write_X10_isFrom : GoodIn wsX10_write wsX10_isFrom := goodIn_r _ [12] (by decide +kernel) (by decide +kernel)
set_option maxRecDepth 20000 in
theorem gX10_write_X10_isFrom : GoodIn wsX10_write (va_wsS RX10 58 yX10_isFrom wsX10_isFrom) := goodIn_app (goodIn_of _ (by decide +kernel)) ggX10_write_X10_isFrom
set_option maxRecDepth 20000 in
theorem ggX10_write_X7_replace : GoodIn wsX10_write wsX7_replace := goodIn_r _ [27, 28, 29, 30, 31, 16, 32, 43, 44, 45] (by decide +kernel) (by decide +kernel)
set_option maxRecDepth 20000 in
theorem gX10_write_X7_replace : GoodIn wsX10_write (wsV RX10 252 RX7 yX7_replace wsX7_replace) := goodIn_app (goodIn_of _ (by decide +kernel)) ggX10_write_X7_replace
theorem dX10_write_0 : decode cX10_write 0 = .ok (.iload_n 1, 1) := by decide +kernel
theorem dX10_write_1 : decode cX10_write 1 = .ok (.invokestatic 235, 3) := by decide +kernel
theorem dX10_write_4 : decode cX10_write 4 = .ok (.ifCond .ne 6, 3) := by decide +kernel
theorem dX10_write_7 : decode cX10_write 7 = .ok (.ldc 78, 2) := by decide +kernel
theorem dX10_write_9 : decode cX10_write 9 = .ok (.ireturn, 1) := by decide +kernel
theorem dX10_write_10 : decode cX10_write 10 = .ok (.aload_n 0, 1) := by decide +kernel
theorem dX10_write_11 : decode cX10_write 11 = .ok (.getfield 22, 3) := by decide +kernel
theorem dX10_write_14 : decode cX10_write 14 = .ok (.iload_n 1, 1) := by decide +kernel
theorem dX10_write_15 : decode cX10_write 15 = .ok (.invokevirtual 246, 3) := by decide +kernel
theorem dX10_write_18 : decode cX10_write 18 = .ok (.ifCond .eq 10, 3) := by decide +kernel
theorem dX10_write_21 : decode cX10_write 21 = .ok (.aload_n 0, 1) := by decide +kernel
theorem dX10_write_22 : decode cX10_write 22 = .ok (.ldc 119, 2) := by decide +kernel
theorem dX10_write_24 : decode cX10_write 24 = .ok (.invokevirtual 91, 3) := by decide +kernel
theorem dX10_write_27 : decode cX10_write 27 = .ok (.ireturn, 1) := by decide +kernel
theorem dX10_write_28 : decode cX10_write 28 = .ok (.iload_n 2, 1) := by decide +kernel
theorem dX10_write_29 : decode cX10_write 29 = .ok (.iconst 0, 1) := by decide +kernel
theorem dX10_write_30 : decode cX10_write 30 = .ok (.aload_n 0, 1) := by decide +kernel
theorem dX10_write_31 : decode cX10_write 31 = .ok (.getfield 22, 3) := by decide +kernel
theorem dX10_write_34 : decode cX10_write 34 = .ok (.getfield 249, 3) := by decide +kernel
theorem dX10_write_37 : decode cX10_write 37 = .ok (.iload_n 1, 1) := by decide +kernel
theorem dX10_write_38 : decode cX10_write 38 = .ok (.iaload, 1) := by decide +kernel
theorem dX10_write_39 : decode cX10_write 39 = .ok (.iconst 1, 1) := by decide +kernel
theorem dX10_write_40 : decode cX10_write 40 = .ok (.isub, 1) := by decide +kernel
theorem dX10_write_41 : decode cX10_write 41 = .ok (.invokestatic 58, 3) := by decide +kernel
theorem dX10_write_44 : decode cX10_write 44 = .ok (.ifCond .ne 10, 3) := by decide +kernel
theorem dX10_write_47 : decode cX10_write 47 = .ok (.aload_n 0, 1) := by decide +kernel
theorem dX10_write_48 : decode cX10_write 48 = .ok (.ldc 251, 2) := by decide +kernel
theorem dX10_write_50 : decode cX10_write 50 = .ok (.invokevirtual 91, 3) := by decide +kernel
theorem dX10_write_53 : decode cX10_write 53 = .ok (.ireturn, 1) := by decide +kernel
theorem dX10_write_54 : decode cX10_write 54 = .ok (.aload_n 0, 1) := by decide +kernel
theorem dX10_write_55 : decode cX10_write 55 = .ok (.getfield 22, 3) := by decide +kernel
theorem dX10_write_58 : decode cX10_write 58 = .ok (.iload_n 1, 1) := by decide +kernel
theorem dX10_write_59 : decode cX10_write 59 = .ok (.iload_n 2, 1) := by decide +kernel
theorem dX10_write_60 : decode cX10_write 60 = .ok (.iload_n 3, 1) := by decide +kernel
theorem dX10_write_61 : decode cX10_write 61 = .ok (.invokevirtual 252, 3) := by decide +kernel
theorem dX10_write_64 : decode cX10_write 64 = .ok (.ireturn, 1) := by decide +kernel
set_option maxRecDepth 20000 in
theorem ggX10_handFrom_X10_isSheet : GoodIn wsX10_handFrom wsX10_isSheet := goodIn_r _ [15, 16, 17, 14, 18] (by decide +kernel) (by decide +kernel)
set_option maxRecDepth 20000 in
theorem gX10_handFrom_X10_isSheet : GoodIn wsX10_handFrom (va_wsS RX10 235 yX10_isSheet wsX10_isSheet) := goodIn_app (goodIn_of _ (by decide +kernel)) ggX10_handFrom_X10_isSheet
set_option maxRecDepth 20000 in
theorem ggX10_handFrom_X10_isSort : GoodIn wsX10_handFrom wsX10_isSort := goodIn_r _ [21, 16, 17, 14, 18] (by decide +kernel) (by decide +kernel)
set_option maxRecDepth 20000 in
theorem gX10_handFrom_X10_isSort : GoodIn wsX10_handFrom (va_wsS RX10 238 yX10_isSort wsX10_isSort) := goodIn_app (goodIn_of _ (by decide +kernel)) ggX10_handFrom_X10_isSort
set_option maxRecDepth 20000 in
theorem ggX10_handFrom_X7_isMissing : GoodIn wsX10_handFrom wsX7_isMissing := goodIn_r _ [26, 27, 58, 59, 60] (by decide +kernel) (by decide +kernel)
set_option maxRecDepth 20000 in
theorem gX10_handFrom_X7_isMissing : GoodIn wsX10_handFrom (wsV RX10 246 RX7 yX7_isMissing wsX7_isMissing) := goodIn_app (goodIn_of _ (by decide +kernel)) ggX10_handFrom_X7_isMissing
set_option maxRecDepth 20000 in
theorem ggX10_handFrom_X10_hostFinding : GoodIn wsX10_handFrom wsX10_hostFinding := goodIn_r _ [31, 32, 48, 49, 50, 51, 52, 53, 54, 55, 56, 57] (by decide +kernel) (by decide +kernel)
set_option maxRecDepth 20000 in
theorem gX10_handFrom_X10_hostFinding : GoodIn wsX10_handFrom (wsV RX10 91 RX10 yX10_hostFinding wsX10_hostFinding) := goodIn_app (goodIn_of _ (by decide +kernel)) ggX10_handFrom_X10_hostFinding
set_option maxRecDepth 20000 in
theorem ggX10_handFrom_X10_isFrom : GoodIn wsX10_handFrom wsX10_isFrom := goodIn_r _ [18] (by decide +kernel) (by decide +kernel)
set_option maxRecDepth 20000 in
theorem gX10_handFrom_X10_isFrom : GoodIn wsX10_handFrom (va_wsS RX10 58 yX10_isFrom wsX10_isFrom) := goodIn_app (goodIn_of _ (by decide +kernel)) ggX10_handFrom_X10_isFrom
set_option maxRecDepth 20000 in
theorem ggX10_handFrom_X8_putNearest : GoodIn wsX10_handFrom wsX8_putNearest := goodIn_r _ [37, 38, 39, 40, 41, 42, 43, 44, 45, 46, 47, 65, 66, 67, 68, 69, 70, 71, 72, 73, 74] (by decide +kernel) (by decide +kernel)
set_option maxRecDepth 20000 in
theorem gX10_handFrom_X8_putNearest : GoodIn wsX10_handFrom (wsV RX10 262 RX8 yX8_putNearest wsX8_putNearest) := goodIn_app (goodIn_of _ (by decide +kernel)) ggX10_handFrom_X8_putNearest
theorem dX10_handFrom_0 : decode cX10_handFrom 0 = .ok (.iload_n 1, 1) := by decide +kernel
theorem dX10_handFrom_1 : decode cX10_handFrom 1 = .ok (.invokestatic 235, 3) := by decide +kernel
theorem dX10_handFrom_4 : decode cX10_handFrom 4 = .ok (.ifCond .eq 10, 3) := by decide +kernel
theorem dX10_handFrom_7 : decode cX10_handFrom 7 = .ok (.iload_n 2, 1) := by decide +kernel
theorem dX10_handFrom_8 : decode cX10_handFrom 8 = .ok (.invokestatic 238, 3) := by decide +kernel
theorem dX10_handFrom_11 : decode cX10_handFrom 11 = .ok (.ifCond .ne 6, 3) := by decide +kernel
theorem dX10_handFrom_14 : decode cX10_handFrom 14 = .ok (.ldc 78, 2) := by decide +kernel
theorem dX10_handFrom_16 : decode cX10_handFrom 16 = .ok (.ireturn, 1) := by decide +kernel
theorem dX10_handFrom_17 : decode cX10_handFrom 17 = .ok (.aload_n 0, 1) := by decide +kernel
theorem dX10_handFrom_18 : decode cX10_handFrom 18 = .ok (.getfield 22, 3) := by decide +kernel
theorem dX10_handFrom_21 : decode cX10_handFrom 21 = .ok (.iload_n 1, 1) := by decide +kernel
theorem dX10_handFrom_22 : decode cX10_handFrom 22 = .ok (.invokevirtual 246, 3) := by decide +kernel
theorem dX10_handFrom_25 : decode cX10_handFrom 25 = .ok (.ifCond .eq 10, 3) := by decide +kernel
theorem dX10_handFrom_28 : decode cX10_handFrom 28 = .ok (.aload_n 0, 1) := by decide +kernel
theorem dX10_handFrom_29 : decode cX10_handFrom 29 = .ok (.ldc 119, 2) := by decide +kernel
theorem dX10_handFrom_31 : decode cX10_handFrom 31 = .ok (.invokevirtual 91, 3) := by decide +kernel
theorem dX10_handFrom_34 : decode cX10_handFrom 34 = .ok (.ireturn, 1) := by decide +kernel
theorem dX10_handFrom_35 : decode cX10_handFrom 35 = .ok (.aload_n 0, 1) := by decide +kernel
theorem dX10_handFrom_36 : decode cX10_handFrom 36 = .ok (.getfield 22, 3) := by decide +kernel
theorem dX10_handFrom_39 : decode cX10_handFrom 39 = .ok (.getfield 255, 3) := by decide +kernel
theorem dX10_handFrom_42 : decode cX10_handFrom 42 = .ok (.iload_n 1, 1) := by decide +kernel
theorem dX10_handFrom_43 : decode cX10_handFrom 43 = .ok (.iaload, 1) := by decide +kernel
theorem dX10_handFrom_44 : decode cX10_handFrom 44 = .ok (.iload_n 2, 1) := by decide +kernel
theorem dX10_handFrom_45 : decode cX10_handFrom 45 = .ok (.if_icmp .eq 10, 3) := by decide +kernel
theorem dX10_handFrom_48 : decode cX10_handFrom 48 = .ok (.aload_n 0, 1) := by decide +kernel
theorem dX10_handFrom_49 : decode cX10_handFrom 49 = .ok (.ldc 90, 2) := by decide +kernel
theorem dX10_handFrom_51 : decode cX10_handFrom 51 = .ok (.invokevirtual 91, 3) := by decide +kernel
theorem dX10_handFrom_54 : decode cX10_handFrom 54 = .ok (.ireturn, 1) := by decide +kernel
theorem dX10_handFrom_55 : decode cX10_handFrom 55 = .ok (.aload_n 0, 1) := by decide +kernel
theorem dX10_handFrom_56 : decode cX10_handFrom 56 = .ok (.getfield 10, 3) := by decide +kernel
theorem dX10_handFrom_59 : decode cX10_handFrom 59 = .ok (.getfield 69, 3) := by decide +kernel
theorem dX10_handFrom_62 : decode cX10_handFrom 62 = .ok (.getfield 73, 3) := by decide +kernel
theorem dX10_handFrom_65 : decode cX10_handFrom 65 = .ok (.istore 4, 2) := by decide +kernel
theorem dX10_handFrom_67 : decode cX10_handFrom 67 = .ok (.iload 4, 2) := by decide +kernel
theorem dX10_handFrom_69 : decode cX10_handFrom 69 = .ok (.ifCond .le 30, 3) := by decide +kernel
theorem dX10_handFrom_72 : decode cX10_handFrom 72 = .ok (.iload_n 3, 1) := by decide +kernel
theorem dX10_handFrom_73 : decode cX10_handFrom 73 = .ok (.iconst 0, 1) := by decide +kernel
theorem dX10_handFrom_74 : decode cX10_handFrom 74 = .ok (.aload_n 0, 1) := by decide +kernel
theorem dX10_handFrom_75 : decode cX10_handFrom 75 = .ok (.getfield 22, 3) := by decide +kernel
theorem dX10_handFrom_78 : decode cX10_handFrom 78 = .ok (.getfield 249, 3) := by decide +kernel
theorem dX10_handFrom_81 : decode cX10_handFrom 81 = .ok (.iload_n 1, 1) := by decide +kernel
theorem dX10_handFrom_82 : decode cX10_handFrom 82 = .ok (.iaload, 1) := by decide +kernel
theorem dX10_handFrom_83 : decode cX10_handFrom 83 = .ok (.iload 4, 2) := by decide +kernel
theorem dX10_handFrom_85 : decode cX10_handFrom 85 = .ok (.isub, 1) := by decide +kernel
theorem dX10_handFrom_86 : decode cX10_handFrom 86 = .ok (.invokestatic 58, 3) := by decide +kernel
theorem dX10_handFrom_89 : decode cX10_handFrom 89 = .ok (.ifCond .ne 10, 3) := by decide +kernel
theorem dX10_handFrom_92 : decode cX10_handFrom 92 = .ok (.aload_n 0, 1) := by decide +kernel
theorem dX10_handFrom_93 : decode cX10_handFrom 93 = .ok (.ldc 251, 2) := by decide +kernel
theorem dX10_handFrom_95 : decode cX10_handFrom 95 = .ok (.invokevirtual 91, 3) := by decide +kernel
theorem dX10_handFrom_98 : decode cX10_handFrom 98 = .ok (.ireturn, 1) := by decide +kernel
theorem dX10_handFrom_99 : decode cX10_handFrom 99 = .ok (.iconst 0, 1) := by decide +kernel
theorem dX10_handFrom_100 : decode cX10_handFrom 100 = .ok (.istore 5, 2) := by decide +kernel
theorem dX10_handFrom_102 : decode cX10_handFrom 102 = .ok (.iconst 0, 1) := by decide +kernel
theorem dX10_handFrom_103 : decode cX10_handFrom 103 = .ok (.istore 6, 2) := by decide +kernel
theorem dX10_handFrom_105 : decode cX10_handFrom 105 = .ok (.iload 6, 2) := by decide +kernel
theorem dX10_handFrom_107 : decode cX10_handFrom 107 = .ok (.iload 4, 2) := by decide +kernel
theorem dX10_handFrom_109 : decode cX10_handFrom 109 = .ok (.if_icmp .ge 40, 3) := by decide +kernel
theorem dX10_handFrom_112 : decode cX10_handFrom 112 = .ok (.iload 5, 2) := by decide +kernel
theorem dX10_handFrom_114 : decode cX10_handFrom 114 = .ok (.aload_n 0, 1) := by decide +kernel
theorem dX10_handFrom_115 : decode cX10_handFrom 115 = .ok (.getfield 10, 3) := by decide +kernel
theorem dX10_handFrom_118 : decode cX10_handFrom 118 = .ok (.getfield 69, 3) := by decide +kernel
theorem dX10_handFrom_121 : decode cX10_handFrom 121 = .ok (.iload 6, 2) := by decide +kernel
theorem dX10_handFrom_123 : decode cX10_handFrom 123 = .ok (.aload_n 0, 1) := by decide +kernel
theorem dX10_handFrom_124 : decode cX10_handFrom 124 = .ok (.getfield 22, 3) := by decide +kernel
theorem dX10_handFrom_127 : decode cX10_handFrom 127 = .ok (.getfield 258, 3) := by decide +kernel
theorem dX10_handFrom_130 : decode cX10_handFrom 130 = .ok (.iload_n 1, 1) := by decide +kernel
theorem dX10_handFrom_131 : decode cX10_handFrom 131 = .ok (.aaload, 1) := by decide +kernel
theorem dX10_handFrom_132 : decode cX10_handFrom 132 = .ok (.iload_n 3, 1) := by decide +kernel
theorem dX10_handFrom_133 : decode cX10_handFrom 133 = .ok (.iload 6, 2) := by decide +kernel
theorem dX10_handFrom_135 : decode cX10_handFrom 135 = .ok (.iadd, 1) := by decide +kernel
theorem dX10_handFrom_136 : decode cX10_handFrom 136 = .ok (.iaload, 1) := by decide +kernel
theorem dX10_handFrom_137 : decode cX10_handFrom 137 = .ok (.invokevirtual 262, 3) := by decide +kernel
theorem dX10_handFrom_140 : decode cX10_handFrom 140 = .ok (.iadd, 1) := by decide +kernel
theorem dX10_handFrom_141 : decode cX10_handFrom 141 = .ok (.istore 5, 2) := by decide +kernel
theorem dX10_handFrom_143 : decode cX10_handFrom 143 = .ok (.iinc 6 1, 3) := by decide +kernel
theorem dX10_handFrom_146 : decode cX10_handFrom 146 = .ok (.goto (-41), 3) := by decide +kernel
theorem dX10_handFrom_149 : decode cX10_handFrom 149 = .ok (.iload 5, 2) := by decide +kernel
theorem dX10_handFrom_151 : decode cX10_handFrom 151 = .ok (.ireturn, 1) := by decide +kernel
set_option maxRecDepth 20000 in
theorem ggX10_keep_X6_copyFrom : GoodIn wsX10_keep wsX6_copyFrom := goodIn_r _ [10, 11, 12, 13, 14, 15, 16, 17, 18, 19, 20, 21, 22, 23, 24, 25, 26, 27, 28, 29, 30, 31, 32, 33, 34, 35, 36, 37, 38, 39, 40, 41, 42, 43, 44, 45, 46, 47, 48, 49, 50, 51, 52, 53, 54, 55, 56, 57, 58, 59, 60, 61, 72, 73, 74, 75, 76, 77, 78, 79, 80, 81, 82, 83, 84, 85, 86, 87, 88, 89, 90, 91, 92, 93, 94, 95, 96, 97] (by decide +kernel) (by decide +kernel)
set_option maxRecDepth 20000 in
theorem gX10_keep_X6_copyFrom : GoodIn wsX10_keep (wsV RX10 265 RX6 yX6_copyFrom wsX6_copyFrom) := goodIn_app (goodIn_of _ (by decide +kernel)) ggX10_keep_X6_copyFrom
theorem dX10_keep_0 : decode cX10_keep 0 = .ok (.aload_n 0, 1) := by decide +kernel
theorem dX10_keep_1 : decode cX10_keep 1 = .ok (.getfield 16, 3) := by decide +kernel
theorem dX10_keep_4 : decode cX10_keep 4 = .ok (.aload_n 0, 1) := by decide +kernel
theorem dX10_keep_5 : decode cX10_keep 5 = .ok (.getfield 10, 3) := by decide +kernel
theorem dX10_keep_8 : decode cX10_keep 8 = .ok (.invokevirtual 265, 3) := by decide +kernel
theorem dX10_keep_11 : decode cX10_keep 11 = .ok (.aload_n 0, 1) := by decide +kernel
theorem dX10_keep_12 : decode cX10_keep 12 = .ok (.iconst 1, 1) := by decide +kernel
theorem dX10_keep_13 : decode cX10_keep 13 = .ok (.putfield 269, 3) := by decide +kernel
theorem dX10_keep_16 : decode cX10_keep 16 = .ok (.aload_n 0, 1) := by decide +kernel
theorem dX10_keep_17 : decode cX10_keep 17 = .ok (.getfield 10, 3) := by decide +kernel
theorem dX10_keep_20 : decode cX10_keep 20 = .ok (.getfield 69, 3) := by decide +kernel
theorem dX10_keep_23 : decode cX10_keep 23 = .ok (.getfield 73, 3) := by decide +kernel
theorem dX10_keep_26 : decode cX10_keep 26 = .ok (.ireturn, 1) := by decide +kernel
set_option maxRecDepth 20000 in
theorem ggX10_back_X10_hostFinding : GoodIn wsX10_back wsX10_hostFinding := goodIn_r _ [11, 12, 69, 70, 71, 72, 73, 74, 75, 76, 77, 78] (by decide +kernel) (by decide +kernel)
set_option maxRecDepth 20000 in
theorem gX10_back_X10_hostFinding : GoodIn wsX10_back (wsV RX10 91 RX10 yX10_hostFinding wsX10_hostFinding) := goodIn_app (goodIn_of _ (by decide +kernel)) ggX10_back_X10_hostFinding
set_option maxRecDepth 20000 in
theorem ggX10_back_X6_copyFrom : GoodIn wsX10_back wsX6_copyFrom := goodIn_r _ [17, 18, 19, 20, 21, 22, 23, 24, 25, 26, 27, 28, 29, 30, 31, 32, 33, 34, 35, 36, 37, 38, 39, 40, 41, 42, 43, 44, 45, 46, 47, 48, 49, 50, 51, 52, 53, 54, 55, 56, 57, 58, 59, 60, 61, 62, 63, 64, 65, 66, 67, 68, 79, 80, 81, 82, 83, 84, 85, 86, 87, 88, 89, 90, 91, 92, 93, 94, 95, 96, 97, 98, 99, 100, 101, 102, 103, 104] (by decide +kernel) (by decide +kernel)
set_option maxRecDepth 20000 in
theorem gX10_back_X6_copyFrom : GoodIn wsX10_back (wsV RX10 265 RX6 yX6_copyFrom wsX6_copyFrom) := goodIn_app (goodIn_of _ (by decide +kernel)) ggX10_back_X6_copyFrom
theorem dX10_back_0 : decode cX10_back 0 = .ok (.aload_n 0, 1) := by decide +kernel
theorem dX10_back_1 : decode cX10_back 1 = .ok (.getfield 269, 3) := by decide +kernel
theorem dX10_back_4 : decode cX10_back 4 = .ok (.ifCond .ne 10, 3) := by decide +kernel
theorem dX10_back_7 : decode cX10_back 7 = .ok (.aload_n 0, 1) := by decide +kernel
theorem dX10_back_8 : decode cX10_back 8 = .ok (.ldc 119, 2) := by decide +kernel
theorem dX10_back_10 : decode cX10_back 10 = .ok (.invokevirtual 91, 3) := by decide +kernel
theorem dX10_back_13 : decode cX10_back 13 = .ok (.ireturn, 1) := by decide +kernel
theorem dX10_back_14 : decode cX10_back 14 = .ok (.aload_n 0, 1) := by decide +kernel
theorem dX10_back_15 : decode cX10_back 15 = .ok (.getfield 10, 3) := by decide +kernel
theorem dX10_back_18 : decode cX10_back 18 = .ok (.aload_n 0, 1) := by decide +kernel
theorem dX10_back_19 : decode cX10_back 19 = .ok (.getfield 16, 3) := by decide +kernel
theorem dX10_back_22 : decode cX10_back 22 = .ok (.invokevirtual 265, 3) := by decide +kernel
theorem dX10_back_25 : decode cX10_back 25 = .ok (.aload_n 0, 1) := by decide +kernel
theorem dX10_back_26 : decode cX10_back 26 = .ok (.getfield 10, 3) := by decide +kernel
theorem dX10_back_29 : decode cX10_back 29 = .ok (.getfield 69, 3) := by decide +kernel
theorem dX10_back_32 : decode cX10_back 32 = .ok (.getfield 73, 3) := by decide +kernel
theorem dX10_back_35 : decode cX10_back 35 = .ok (.ireturn, 1) := by decide +kernel
set_option maxRecDepth 20000 in
theorem ggX10_count_J6_bitCount_0f7a4 : GoodIn wsX10_count wsJ6_bitCount_0f7a4 := goodIn_r _ [17, 18, 19, 20] (by decide +kernel) (by decide +kernel)
set_option maxRecDepth 20000 in
theorem gX10_count_J6_bitCount_0f7a4 : GoodIn wsX10_count (va_wsS RX10 273 yJ6_bitCount_0f7a4 wsJ6_bitCount_0f7a4) := goodIn_app (goodIn_of _ (by decide +kernel)) ggX10_count_J6_bitCount_0f7a4
theorem dX10_count_0 : decode cX10_count 0 = .ok (.iload_n 1, 1) := by decide +kernel
theorem dX10_count_1 : decode cX10_count 1 = .ok (.tableswitch 117 0 6 #[43, 54, 65, 76, 90, 101, 112], 43) := by decide +kernel
theorem dX10_count_44 : decode cX10_count 44 = .ok (.aload_n 0, 1) := by decide +kernel
theorem dX10_count_45 : decode cX10_count 45 = .ok (.getfield 10, 3) := by decide +kernel
theorem dX10_count_48 : decode cX10_count 48 = .ok (.getfield 69, 3) := by decide +kernel
theorem dX10_count_51 : decode cX10_count 51 = .ok (.getfield 73, 3) := by decide +kernel
theorem dX10_count_54 : decode cX10_count 54 = .ok (.ireturn, 1) := by decide +kernel
theorem dX10_count_55 : decode cX10_count 55 = .ok (.aload_n 0, 1) := by decide +kernel
theorem dX10_count_56 : decode cX10_count 56 = .ok (.getfield 10, 3) := by decide +kernel
theorem dX10_count_59 : decode cX10_count 59 = .ok (.getfield 69, 3) := by decide +kernel
theorem dX10_count_62 : decode cX10_count 62 = .ok (.getfield 101, 3) := by decide +kernel
theorem dX10_count_65 : decode cX10_count 65 = .ok (.ireturn, 1) := by decide +kernel
theorem dX10_count_66 : decode cX10_count 66 = .ok (.aload_n 0, 1) := by decide +kernel
theorem dX10_count_67 : decode cX10_count 67 = .ok (.getfield 10, 3) := by decide +kernel
theorem dX10_count_70 : decode cX10_count 70 = .ok (.getfield 177, 3) := by decide +kernel
theorem dX10_count_73 : decode cX10_count 73 = .ok (.getfield 181, 3) := by decide +kernel
theorem dX10_count_76 : decode cX10_count 76 = .ok (.ireturn, 1) := by decide +kernel
theorem dX10_count_77 : decode cX10_count 77 = .ok (.aload_n 0, 1) := by decide +kernel
theorem dX10_count_78 : decode cX10_count 78 = .ok (.getfield 10, 3) := by decide +kernel
theorem dX10_count_81 : decode cX10_count 81 = .ok (.getfield 177, 3) := by decide +kernel
theorem dX10_count_84 : decode cX10_count 84 = .ok (.getfield 187, 3) := by decide +kernel
theorem dX10_count_87 : decode cX10_count 87 = .ok (.invokestatic 273, 3) := by decide +kernel
theorem dX10_count_90 : decode cX10_count 90 = .ok (.ireturn, 1) := by decide +kernel
theorem dX10_count_91 : decode cX10_count 91 = .ok (.aload_n 0, 1) := by decide +kernel
theorem dX10_count_92 : decode cX10_count 92 = .ok (.getfield 10, 3) := by decide +kernel
theorem dX10_count_95 : decode cX10_count 95 = .ok (.getfield 198, 3) := by decide +kernel
theorem dX10_count_98 : decode cX10_count 98 = .ok (.getfield 202, 3) := by decide +kernel
theorem dX10_count_101 : decode cX10_count 101 = .ok (.ireturn, 1) := by decide +kernel
theorem dX10_count_102 : decode cX10_count 102 = .ok (.aload_n 0, 1) := by decide +kernel
theorem dX10_count_103 : decode cX10_count 103 = .ok (.getfield 10, 3) := by decide +kernel
theorem dX10_count_106 : decode cX10_count 106 = .ok (.getfield 216, 3) := by decide +kernel
theorem dX10_count_109 : decode cX10_count 109 = .ok (.getfield 220, 3) := by decide +kernel
theorem dX10_count_112 : decode cX10_count 112 = .ok (.ireturn, 1) := by decide +kernel
theorem dX10_count_113 : decode cX10_count 113 = .ok (.aload_n 0, 1) := by decide +kernel
theorem dX10_count_114 : decode cX10_count 114 = .ok (.getfield 278, 3) := by decide +kernel
theorem dX10_count_117 : decode cX10_count 117 = .ok (.ireturn, 1) := by decide +kernel
theorem dX10_count_118 : decode cX10_count 118 = .ok (.ldc 78, 2) := by decide +kernel
theorem dX10_count_120 : decode cX10_count 120 = .ok (.ireturn, 1) := by decide +kernel
theorem dX10_hostFinding_0 : decode cX10_hostFinding 0 = .ok (.aload_n 0, 1) := by decide +kernel
theorem dX10_hostFinding_1 : decode cX10_hostFinding 1 = .ok (.dup, 1) := by decide +kernel
theorem dX10_hostFinding_2 : decode cX10_hostFinding 2 = .ok (.getfield 278, 3) := by decide +kernel
theorem dX10_hostFinding_5 : decode cX10_hostFinding 5 = .ok (.iconst 1, 1) := by decide +kernel
theorem dX10_hostFinding_6 : decode cX10_hostFinding 6 = .ok (.iadd, 1) := by decide +kernel
theorem dX10_hostFinding_7 : decode cX10_hostFinding 7 = .ok (.putfield 278, 3) := by decide +kernel
theorem dX10_hostFinding_10 : decode cX10_hostFinding 10 = .ok (.iload_n 1, 1) := by decide +kernel
theorem dX10_hostFinding_11 : decode cX10_hostFinding 11 = .ok (.ireturn, 1) := by decide +kernel
set_option maxRecDepth 20000 in
theorem ggX10_fraction_X10_commonDivisor : GoodIn wsX10_fraction wsX10_commonDivisor := goodIn_r _ [6, 7, 8, 9, 10] (by decide +kernel) (by decide +kernel)
set_option maxRecDepth 20000 in
theorem gX10_fraction_X10_commonDivisor : GoodIn wsX10_fraction (va_wsS RX10 281 yX10_commonDivisor wsX10_commonDivisor) := goodIn_app (goodIn_of _ (by decide +kernel)) ggX10_fraction_X10_commonDivisor
theorem dX10_fraction_0 : decode cX10_fraction 0 = .ok (.lload_n 1, 1) := by decide +kernel
theorem dX10_fraction_1 : decode cX10_fraction 1 = .ok (.lload_n 3, 1) := by decide +kernel
theorem dX10_fraction_2 : decode cX10_fraction 2 = .ok (.invokestatic 281, 3) := by decide +kernel
theorem dX10_fraction_5 : decode cX10_fraction 5 = .ok (.lstore 5, 2) := by decide +kernel
theorem dX10_fraction_7 : decode cX10_fraction 7 = .ok (.lload 5, 2) := by decide +kernel
theorem dX10_fraction_9 : decode cX10_fraction 9 = .ok (.lconst 0, 1) := by decide +kernel
theorem dX10_fraction_10 : decode cX10_fraction 10 = .ok (.lcmp, 1) := by decide +kernel
theorem dX10_fraction_11 : decode cX10_fraction 11 = .ok (.ifCond .gt 6, 3) := by decide +kernel
theorem dX10_fraction_14 : decode cX10_fraction 14 = .ok (.ldc 78, 2) := by decide +kernel
theorem dX10_fraction_16 : decode cX10_fraction 16 = .ok (.ireturn, 1) := by decide +kernel
theorem dX10_fraction_17 : decode cX10_fraction 17 = .ok (.aload_n 0, 1) := by decide +kernel
theorem dX10_fraction_18 : decode cX10_fraction 18 = .ok (.lload_n 3, 1) := by decide +kernel
theorem dX10_fraction_19 : decode cX10_fraction 19 = .ok (.lload 5, 2) := by decide +kernel
theorem dX10_fraction_21 : decode cX10_fraction 21 = .ok (.ldiv, 1) := by decide +kernel
theorem dX10_fraction_22 : decode cX10_fraction 22 = .ok (.l2i, 1) := by decide +kernel
theorem dX10_fraction_23 : decode cX10_fraction 23 = .ok (.putfield 54, 3) := by decide +kernel
theorem dX10_fraction_26 : decode cX10_fraction 26 = .ok (.lload_n 1, 1) := by decide +kernel
theorem dX10_fraction_27 : decode cX10_fraction 27 = .ok (.lload 5, 2) := by decide +kernel
theorem dX10_fraction_29 : decode cX10_fraction 29 = .ok (.ldiv, 1) := by decide +kernel
theorem dX10_fraction_30 : decode cX10_fraction 30 = .ok (.l2i, 1) := by decide +kernel
theorem dX10_fraction_31 : decode cX10_fraction 31 = .ok (.ireturn, 1) := by decide +kernel
set_option maxRecDepth 20000 in
theorem ggX10_makeDraw_X3_make : GoodIn wsX10_makeDraw wsX3_make := goodIn_r _ [9, 10, 11, 12, 13, 14, 15, 16, 17, 18, 19, 20, 21, 22, 23, 24, 25, 26, 8, 27, 28, 29, 30, 31, 32, 33, 34, 35, 36, 37, 38, 39, 40, 41, 42, 43, 44, 45, 46, 47, 48, 49, 50, 51, 52, 53, 54, 86, 87, 88, 89, 90, 91, 92, 93, 94, 95, 96, 97, 98, 99, 100, 101] (by decide +kernel) (by decide +kernel)
set_option maxRecDepth 20000 in
theorem gX10_makeDraw_X3_make : GoodIn wsX10_makeDraw (wsV RX10 120 RX3 yX3_make wsX3_make) := goodIn_app (goodIn_of _ (by decide +kernel)) ggX10_makeDraw_X3_make
set_option maxRecDepth 20000 in
theorem ggX10_makeDraw_X1_make : GoodIn wsX10_makeDraw wsX1_make := goodIn_r _ [59, 60, 61, 62, 63, 64, 65, 66, 58, 67, 68, 69, 70, 71, 102, 103, 96, 97, 98, 99, 100, 101] (by decide +kernel) (by decide +kernel)
set_option maxRecDepth 20000 in
theorem gX10_makeDraw_X1_make : GoodIn wsX10_makeDraw (wsV RX10 285 RX1 yX1_make wsX1_make) := goodIn_app (goodIn_of _ (by decide +kernel)) ggX10_makeDraw_X1_make
theorem dX10_makeDraw_0 : decode cX10_makeDraw 0 = .ok (.aload_n 0, 1) := by decide +kernel
theorem dX10_makeDraw_1 : decode cX10_makeDraw 1 = .ok (.getfield 29, 3) := by decide +kernel
theorem dX10_makeDraw_4 : decode cX10_makeDraw 4 = .ok (.aload_n 0, 1) := by decide +kernel
theorem dX10_makeDraw_5 : decode cX10_makeDraw 5 = .ok (.getfield 10, 3) := by decide +kernel
theorem dX10_makeDraw_8 : decode cX10_makeDraw 8 = .ok (.getfield 69, 3) := by decide +kernel
theorem dX10_makeDraw_11 : decode cX10_makeDraw 11 = .ok (.invokevirtual 120, 3) := by decide +kernel
theorem dX10_makeDraw_14 : decode cX10_makeDraw 14 = .ok (.ifCond .ne 5, 3) := by decide +kernel
theorem dX10_makeDraw_17 : decode cX10_makeDraw 17 = .ok (.iconst 0, 1) := by decide +kernel
theorem dX10_makeDraw_18 : decode cX10_makeDraw 18 = .ok (.ireturn, 1) := by decide +kernel
theorem dX10_makeDraw_19 : decode cX10_makeDraw 19 = .ok (.aload_n 0, 1) := by decide +kernel
theorem dX10_makeDraw_20 : decode cX10_makeDraw 20 = .ok (.getfield 36, 3) := by decide +kernel
theorem dX10_makeDraw_23 : decode cX10_makeDraw 23 = .ok (.aload_n 0, 1) := by decide +kernel
theorem dX10_makeDraw_24 : decode cX10_makeDraw 24 = .ok (.getfield 29, 3) := by decide +kernel
theorem dX10_makeDraw_27 : decode cX10_makeDraw 27 = .ok (.invokevirtual 285, 3) := by decide +kernel
theorem dX10_makeDraw_30 : decode cX10_makeDraw 30 = .ok (.iconst 1, 1) := by decide +kernel
theorem dX10_makeDraw_31 : decode cX10_makeDraw 31 = .ok (.ireturn, 1) := by decide +kernel
theorem dX10_commonDivisor_0 : decode cX10_commonDivisor 0 = .ok (.lload_n 0, 1) := by decide +kernel
theorem dX10_commonDivisor_1 : decode cX10_commonDivisor 1 = .ok (.invokestatic 288, 3) := by decide +kernel
theorem dX10_commonDivisor_4 : decode cX10_commonDivisor 4 = .ok (.lstore 4, 2) := by decide +kernel
theorem dX10_commonDivisor_6 : decode cX10_commonDivisor 6 = .ok (.lload_n 2, 1) := by decide +kernel
theorem dX10_commonDivisor_7 : decode cX10_commonDivisor 7 = .ok (.invokestatic 288, 3) := by decide +kernel
theorem dX10_commonDivisor_10 : decode cX10_commonDivisor 10 = .ok (.lstore 6, 2) := by decide +kernel
theorem dX10_commonDivisor_12 : decode cX10_commonDivisor 12 = .ok (.iconst 0, 1) := by decide +kernel
theorem dX10_commonDivisor_13 : decode cX10_commonDivisor 13 = .ok (.istore 8, 2) := by decide +kernel
theorem dX10_commonDivisor_15 : decode cX10_commonDivisor 15 = .ok (.iload 8, 2) := by decide +kernel
theorem dX10_commonDivisor_17 : decode cX10_commonDivisor 17 = .ok (.sipush 200, 3) := by decide +kernel
theorem dX10_commonDivisor_20 : decode cX10_commonDivisor 20 = .ok (.if_icmp .ge 31, 3) := by decide +kernel
theorem dX10_commonDivisor_23 : decode cX10_commonDivisor 23 = .ok (.lload 6, 2) := by decide +kernel
theorem dX10_commonDivisor_25 : decode cX10_commonDivisor 25 = .ok (.lconst 0, 1) := by decide +kernel
theorem dX10_commonDivisor_26 : decode cX10_commonDivisor 26 = .ok (.lcmp, 1) := by decide +kernel
theorem dX10_commonDivisor_27 : decode cX10_commonDivisor 27 = .ok (.ifCond .eq 24, 3) := by decide +kernel
theorem dX10_commonDivisor_30 : decode cX10_commonDivisor 30 = .ok (.lload 4, 2) := by decide +kernel
theorem dX10_commonDivisor_32 : decode cX10_commonDivisor 32 = .ok (.lload 6, 2) := by decide +kernel
theorem dX10_commonDivisor_34 : decode cX10_commonDivisor 34 = .ok (.lrem, 1) := by decide +kernel
theorem dX10_commonDivisor_35 : decode cX10_commonDivisor 35 = .ok (.lstore 9, 2) := by decide +kernel
theorem dX10_commonDivisor_37 : decode cX10_commonDivisor 37 = .ok (.lload 6, 2) := by decide +kernel
theorem dX10_commonDivisor_39 : decode cX10_commonDivisor 39 = .ok (.lstore 4, 2) := by decide +kernel
theorem dX10_commonDivisor_41 : decode cX10_commonDivisor 41 = .ok (.lload 9, 2) := by decide +kernel
theorem dX10_commonDivisor_43 : decode cX10_commonDivisor 43 = .ok (.lstore 6, 2) := by decide +kernel
theorem dX10_commonDivisor_45 : decode cX10_commonDivisor 45 = .ok (.iinc 8 1, 3) := by decide +kernel
theorem dX10_commonDivisor_48 : decode cX10_commonDivisor 48 = .ok (.goto (-33), 3) := by decide +kernel
theorem dX10_commonDivisor_51 : decode cX10_commonDivisor 51 = .ok (.lload 4, 2) := by decide +kernel
theorem dX10_commonDivisor_53 : decode cX10_commonDivisor 53 = .ok (.lreturn, 1) := by decide +kernel
theorem dX10_isFrom_0 : decode cX10_isFrom 0 = .ok (.iload_n 0, 1) := by decide +kernel
theorem dX10_isFrom_1 : decode cX10_isFrom 1 = .ok (.iload_n 1, 1) := by decide +kernel
theorem dX10_isFrom_2 : decode cX10_isFrom 2 = .ok (.if_icmp .lt 12, 3) := by decide +kernel
theorem dX10_isFrom_5 : decode cX10_isFrom 5 = .ok (.iload_n 0, 1) := by decide +kernel
theorem dX10_isFrom_6 : decode cX10_isFrom 6 = .ok (.iload_n 2, 1) := by decide +kernel
theorem dX10_isFrom_7 : decode cX10_isFrom 7 = .ok (.if_icmp .gt 7, 3) := by decide +kernel
theorem dX10_isFrom_10 : decode cX10_isFrom 10 = .ok (.iconst 1, 1) := by decide +kernel
theorem dX10_isFrom_11 : decode cX10_isFrom 11 = .ok (.goto 4, 3) := by decide +kernel
theorem dX10_isFrom_14 : decode cX10_isFrom 14 = .ok (.iconst 0, 1) := by decide +kernel
theorem dX10_isFrom_15 : decode cX10_isFrom 15 = .ok (.ireturn, 1) := by decide +kernel
set_option maxRecDepth 20000 in
theorem ggX10_isPay_X10_isFrom : GoodIn wsX10_isPay wsX10_isFrom := goodIn_r _ [4] (by decide +kernel) (by decide +kernel)
set_option maxRecDepth 20000 in
theorem gX10_isPay_X10_isFrom : GoodIn wsX10_isPay (va_wsS RX10 58 yX10_isFrom wsX10_isFrom) := goodIn_app (goodIn_of _ (by decide +kernel)) ggX10_isPay_X10_isFrom
theorem dX10_isPay_0 : decode cX10_isPay 0 = .ok (.iload_n 0, 1) := by decide +kernel
theorem dX10_isPay_1 : decode cX10_isPay 1 = .ok (.bipush (-60), 2) := by decide +kernel
theorem dX10_isPay_3 : decode cX10_isPay 3 = .ok (.bipush 60, 2) := by decide +kernel
theorem dX10_isPay_5 : decode cX10_isPay 5 = .ok (.invokestatic 58, 3) := by decide +kernel
theorem dX10_isPay_8 : decode cX10_isPay 8 = .ok (.ireturn, 1) := by decide +kernel
set_option maxRecDepth 20000 in
theorem ggX10_isGap_X10_isFrom : GoodIn wsX10_isGap wsX10_isFrom := goodIn_r _ [4] (by decide +kernel) (by decide +kernel)
set_option maxRecDepth 20000 in
theorem gX10_isGap_X10_isFrom : GoodIn wsX10_isGap (va_wsS RX10 58 yX10_isFrom wsX10_isFrom) := goodIn_app (goodIn_of _ (by decide +kernel)) ggX10_isGap_X10_isFrom
theorem dX10_isGap_0 : decode cX10_isGap 0 = .ok (.iload_n 0, 1) := by decide +kernel
theorem dX10_isGap_1 : decode cX10_isGap 1 = .ok (.iconst 1, 1) := by decide +kernel
theorem dX10_isGap_2 : decode cX10_isGap 2 = .ok (.bipush 60, 2) := by decide +kernel
theorem dX10_isGap_4 : decode cX10_isGap 4 = .ok (.invokestatic 58, 3) := by decide +kernel
theorem dX10_isGap_7 : decode cX10_isGap 7 = .ok (.ifCond .eq 14, 3) := by decide +kernel
theorem dX10_isGap_10 : decode cX10_isGap 10 = .ok (.bipush 60, 2) := by decide +kernel
theorem dX10_isGap_12 : decode cX10_isGap 12 = .ok (.iload_n 0, 1) := by decide +kernel
theorem dX10_isGap_13 : decode cX10_isGap 13 = .ok (.irem, 1) := by decide +kernel
theorem dX10_isGap_14 : decode cX10_isGap 14 = .ok (.ifCond .ne 7, 3) := by decide +kernel
theorem dX10_isGap_17 : decode cX10_isGap 17 = .ok (.iconst 1, 1) := by decide +kernel
theorem dX10_isGap_18 : decode cX10_isGap 18 = .ok (.goto 4, 3) := by decide +kernel
theorem dX10_isGap_21 : decode cX10_isGap 21 = .ok (.iconst 0, 1) := by decide +kernel
theorem dX10_isGap_22 : decode cX10_isGap 22 = .ok (.ireturn, 1) := by decide +kernel
set_option maxRecDepth 20000 in
theorem ggX10_isPlace_X10_isFrom : GoodIn wsX10_isPlace wsX10_isFrom := goodIn_r _ [4] (by decide +kernel) (by decide +kernel)
set_option maxRecDepth 20000 in
theorem gX10_isPlace_X10_isFrom : GoodIn wsX10_isPlace (va_wsS RX10 58 yX10_isFrom wsX10_isFrom) := goodIn_app (goodIn_of _ (by decide +kernel)) ggX10_isPlace_X10_isFrom
theorem dX10_isPlace_0 : decode cX10_isPlace 0 = .ok (.iload_n 0, 1) := by decide +kernel
theorem dX10_isPlace_1 : decode cX10_isPlace 1 = .ok (.iconst 0, 1) := by decide +kernel
theorem dX10_isPlace_2 : decode cX10_isPlace 2 = .ok (.bipush 9, 2) := by decide +kernel
theorem dX10_isPlace_4 : decode cX10_isPlace 4 = .ok (.invokestatic 58, 3) := by decide +kernel
theorem dX10_isPlace_7 : decode cX10_isPlace 7 = .ok (.ireturn, 1) := by decide +kernel
set_option maxRecDepth 20000 in
theorem ggX10_isSheet_X10_isFrom : GoodIn wsX10_isSheet wsX10_isFrom := goodIn_r _ [4] (by decide +kernel) (by decide +kernel)
set_option maxRecDepth 20000 in
theorem gX10_isSheet_X10_isFrom : GoodIn wsX10_isSheet (va_wsS RX10 58 yX10_isFrom wsX10_isFrom) := goodIn_app (goodIn_of _ (by decide +kernel)) ggX10_isSheet_X10_isFrom
theorem dX10_isSheet_0 : decode cX10_isSheet 0 = .ok (.iload_n 0, 1) := by decide +kernel
theorem dX10_isSheet_1 : decode cX10_isSheet 1 = .ok (.iconst 0, 1) := by decide +kernel
theorem dX10_isSheet_2 : decode cX10_isSheet 2 = .ok (.iconst 3, 1) := by decide +kernel
theorem dX10_isSheet_3 : decode cX10_isSheet 3 = .ok (.invokestatic 58, 3) := by decide +kernel
theorem dX10_isSheet_6 : decode cX10_isSheet 6 = .ok (.ireturn, 1) := by decide +kernel
set_option maxRecDepth 20000 in
theorem ggX10_isSort_X10_isFrom : GoodIn wsX10_isSort wsX10_isFrom := goodIn_r _ [4] (by decide +kernel) (by decide +kernel)
set_option maxRecDepth 20000 in
theorem gX10_isSort_X10_isFrom : GoodIn wsX10_isSort (va_wsS RX10 58 yX10_isFrom wsX10_isFrom) := goodIn_app (goodIn_of _ (by decide +kernel)) ggX10_isSort_X10_isFrom
theorem dX10_isSort_0 : decode cX10_isSort 0 = .ok (.iload_n 0, 1) := by decide +kernel
theorem dX10_isSort_1 : decode cX10_isSort 1 = .ok (.iconst 0, 1) := by decide +kernel
theorem dX10_isSort_2 : decode cX10_isSort 2 = .ok (.iconst 2, 1) := by decide +kernel
theorem dX10_isSort_3 : decode cX10_isSort 3 = .ok (.invokestatic 58, 3) := by decide +kernel
theorem dX10_isSort_6 : decode cX10_isSort 6 = .ok (.ireturn, 1) := by decide +kernel
theorem dX11_init_0 : decode cX11_init 0 = .ok (.aload_n 0, 1) := by decide +kernel
theorem dX11_init_1 : decode cX11_init 1 = .ok (.invokespecial 1, 3) := by decide +kernel
theorem dX11_init_4 : decode cX11_init 4 = .ok (.aload_n 0, 1) := by decide +kernel
theorem dX11_init_5 : decode cX11_init 5 = .ok (.sipush 194, 3) := by decide +kernel
theorem dX11_init_8 : decode cX11_init 8 = .ok (.newarray .int, 2) := by decide +kernel
theorem dX11_init_10 : decode cX11_init 10 = .ok (.putfield 9, 3) := by decide +kernel
theorem dX11_init_13 : decode cX11_init 13 = .ok (.aload_n 0, 1) := by decide +kernel
theorem dX11_init_14 : decode cX11_init 14 = .ok (.sipush 194, 3) := by decide +kernel
theorem dX11_init_17 : decode cX11_init 17 = .ok (.newarray .int, 2) := by decide +kernel
theorem dX11_init_19 : decode cX11_init 19 = .ok (.putfield 13, 3) := by decide +kernel
theorem dX11_init_22 : decode cX11_init 22 = .ok (.aload_n 0, 1) := by decide +kernel
theorem dX11_init_23 : decode cX11_init 23 = .ok (.iconst 1, 1) := by decide +kernel
theorem dX11_init_24 : decode cX11_init 24 = .ok (.putfield 16, 3) := by decide +kernel
theorem dX11_init_27 : decode cX11_init 27 = .ok (.aload_n 0, 1) := by decide +kernel
theorem dX11_init_28 : decode cX11_init 28 = .ok (.iconst 4, 1) := by decide +kernel
theorem dX11_init_29 : decode cX11_init 29 = .ok (.newarray .int, 2) := by decide +kernel
theorem dX11_init_31 : decode cX11_init 31 = .ok (.putfield 20, 3) := by decide +kernel
theorem dX11_init_34 : decode cX11_init 34 = .ok (.aload_n 0, 1) := by decide +kernel
theorem dX11_init_35 : decode cX11_init 35 = .ok (.iconst 4, 1) := by decide +kernel
theorem dX11_init_36 : decode cX11_init 36 = .ok (.newarray .int, 2) := by decide +kernel
theorem dX11_init_38 : decode cX11_init 38 = .ok (.putfield 23, 3) := by decide +kernel
theorem dX11_init_41 : decode cX11_init 41 = .ok (.aload_n 0, 1) := by decide +kernel
theorem dX11_init_42 : decode cX11_init 42 = .ok (.sipush 160, 3) := by decide +kernel
theorem dX11_init_45 : decode cX11_init 45 = .ok (.newarray .int, 2) := by decide +kernel
theorem dX11_init_47 : decode cX11_init 47 = .ok (.putfield 26, 3) := by decide +kernel
theorem dX11_init_50 : decode cX11_init 50 = .ok (.aload_n 0, 1) := by decide +kernel
theorem dX11_init_51 : decode cX11_init 51 = .ok (.bipush 10, 2) := by decide +kernel
theorem dX11_init_53 : decode cX11_init 53 = .ok (.newarray .long, 2) := by decide +kernel
theorem dX11_init_55 : decode cX11_init 55 = .ok (.putfield 29, 3) := by decide +kernel
theorem dX11_init_58 : decode cX11_init 58 = .ok (.aload_n 0, 1) := by decide +kernel
theorem dX11_init_59 : decode cX11_init 59 = .ok (.bipush 12, 2) := by decide +kernel
theorem dX11_init_61 : decode cX11_init 61 = .ok (.newarray .long, 2) := by decide +kernel
theorem dX11_init_63 : decode cX11_init 63 = .ok (.putfield 33, 3) := by decide +kernel
theorem dX11_init_66 : decode cX11_init 66 = .ok (.aload_n 0, 1) := by decide +kernel
theorem dX11_init_67 : decode cX11_init 67 = .ok (.bipush 10, 2) := by decide +kernel
theorem dX11_init_69 : decode cX11_init 69 = .ok (.newarray .int, 2) := by decide +kernel
theorem dX11_init_71 : decode cX11_init 71 = .ok (.putfield 36, 3) := by decide +kernel
theorem dX11_init_74 : decode cX11_init 74 = .ok (.aload_n 0, 1) := by decide +kernel
theorem dX11_init_75 : decode cX11_init 75 = .ok (.ldc 39, 2) := by decide +kernel
theorem dX11_init_77 : decode cX11_init 77 = .ok (.newarray .boolean, 2) := by decide +kernel
theorem dX11_init_79 : decode cX11_init 79 = .ok (.putfield 40, 3) := by decide +kernel
theorem dX11_init_82 : decode cX11_init 82 = .ok (.aload_n 0, 1) := by decide +kernel
theorem dX11_init_83 : decode cX11_init 83 = .ok (.getfield 9, 3) := by decide +kernel
theorem dX11_init_86 : decode cX11_init 86 = .ok (.iconst 1, 1) := by decide +kernel
theorem dX11_init_87 : decode cX11_init 87 = .ok (.iconst 1, 1) := by decide +kernel
theorem dX11_init_88 : decode cX11_init 88 = .ok (.iastore, 1) := by decide +kernel
theorem dX11_init_89 : decode cX11_init 89 = .ok (.iconst 0, 1) := by decide +kernel
theorem dX11_init_90 : decode cX11_init 90 = .ok (.istore_n 1, 1) := by decide +kernel
theorem dX11_init_91 : decode cX11_init 91 = .ok (.iload_n 1, 1) := by decide +kernel
theorem dX11_init_92 : decode cX11_init 92 = .ok (.iconst 4, 1) := by decide +kernel
theorem dX11_init_93 : decode cX11_init 93 = .ok (.if_icmp .ge 16, 3) := by decide +kernel
theorem dX11_init_96 : decode cX11_init 96 = .ok (.aload_n 0, 1) := by decide +kernel
theorem dX11_init_97 : decode cX11_init 97 = .ok (.getfield 20, 3) := by decide +kernel
theorem dX11_init_100 : decode cX11_init 100 = .ok (.iload_n 1, 1) := by decide +kernel
theorem dX11_init_101 : decode cX11_init 101 = .ok (.iconst (-1), 1) := by decide +kernel
theorem dX11_init_102 : decode cX11_init 102 = .ok (.iastore, 1) := by decide +kernel
theorem dX11_init_103 : decode cX11_init 103 = .ok (.iinc 1 1, 3) := by decide +kernel
theorem dX11_init_106 : decode cX11_init 106 = .ok (.goto (-15), 3) := by decide +kernel
theorem dX11_init_109 : decode cX11_init 109 = .ok (.return_, 1) := by decide +kernel
theorem dX11_found_0 : decode cX11_found 0 = .ok (.aload_n 0, 1) := by decide +kernel
theorem dX11_found_1 : decode cX11_found 1 = .ok (.dup, 1) := by decide +kernel
theorem dX11_found_2 : decode cX11_found 2 = .ok (.getfield 44, 3) := by decide +kernel
theorem dX11_found_5 : decode cX11_found 5 = .ok (.iconst 1, 1) := by decide +kernel
theorem dX11_found_6 : decode cX11_found 6 = .ok (.iadd, 1) := by decide +kernel
theorem dX11_found_7 : decode cX11_found 7 = .ok (.putfield 44, 3) := by decide +kernel
theorem dX11_found_10 : decode cX11_found 10 = .ok (.iload_n 1, 1) := by decide +kernel
theorem dX11_found_11 : decode cX11_found 11 = .ok (.ireturn, 1) := by decide +kernel
theorem dX11_within_0 : decode cX11_within 0 = .ok (.iload_n 0, 1) := by decide +kernel
theorem dX11_within_1 : decode cX11_within 1 = .ok (.iload_n 1, 1) := by decide +kernel
theorem dX11_within_2 : decode cX11_within 2 = .ok (.if_icmp .lt 12, 3) := by decide +kernel
theorem dX11_within_5 : decode cX11_within 5 = .ok (.iload_n 0, 1) := by decide +kernel
theorem dX11_within_6 : decode cX11_within 6 = .ok (.iload_n 2, 1) := by decide +kernel
theorem dX11_within_7 : decode cX11_within 7 = .ok (.if_icmp .gt 7, 3) := by decide +kernel
theorem dX11_within_10 : decode cX11_within 10 = .ok (.iconst 1, 1) := by decide +kernel
theorem dX11_within_11 : decode cX11_within 11 = .ok (.goto 4, 3) := by decide +kernel
theorem dX11_within_14 : decode cX11_within 14 = .ok (.iconst 0, 1) := by decide +kernel
theorem dX11_within_15 : decode cX11_within 15 = .ok (.ireturn, 1) := by decide +kernel
set_option maxRecDepth 20000 in
theorem ggX11_isTarget_X11_within : GoodIn wsX11_isTarget wsX11_within := goodIn_r _ [5] (by decide +kernel) (by decide +kernel)
set_option maxRecDepth 20000 in
theorem gX11_isTarget_X11_within : GoodIn wsX11_isTarget (va_wsS RX11 47 yX11_within wsX11_within) := goodIn_app (goodIn_of _ (by decide +kernel)) ggX11_isTarget_X11_within
theorem dX11_isTarget_0 : decode cX11_isTarget 0 = .ok (.iload_n 1, 1) := by decide +kernel
theorem dX11_isTarget_1 : decode cX11_isTarget 1 = .ok (.iconst 0, 1) := by decide +kernel
theorem dX11_isTarget_2 : decode cX11_isTarget 2 = .ok (.aload_n 0, 1) := by decide +kernel
theorem dX11_isTarget_3 : decode cX11_isTarget 3 = .ok (.getfield 9, 3) := by decide +kernel
theorem dX11_isTarget_6 : decode cX11_isTarget 6 = .ok (.iconst 0, 1) := by decide +kernel
theorem dX11_isTarget_7 : decode cX11_isTarget 7 = .ok (.iaload, 1) := by decide +kernel
theorem dX11_isTarget_8 : decode cX11_isTarget 8 = .ok (.iconst 1, 1) := by decide +kernel
theorem dX11_isTarget_9 : decode cX11_isTarget 9 = .ok (.isub, 1) := by decide +kernel
theorem dX11_isTarget_10 : decode cX11_isTarget 10 = .ok (.invokestatic 47, 3) := by decide +kernel
theorem dX11_isTarget_13 : decode cX11_isTarget 13 = .ok (.ireturn, 1) := by decide +kernel
set_option maxRecDepth 20000 in
theorem ggX11_isGap_X11_within : GoodIn wsX11_isGap wsX11_within := goodIn_r _ [4] (by decide +kernel) (by decide +kernel)
set_option maxRecDepth 20000 in
theorem gX11_isGap_X11_within : GoodIn wsX11_isGap (va_wsS RX11 47 yX11_within wsX11_within) := goodIn_app (goodIn_of _ (by decide +kernel)) ggX11_isGap_X11_within
theorem dX11_isGap_0 : decode cX11_isGap 0 = .ok (.iload_n 0, 1) := by decide +kernel
theorem dX11_isGap_1 : decode cX11_isGap 1 = .ok (.iconst 1, 1) := by decide +kernel
theorem dX11_isGap_2 : decode cX11_isGap 2 = .ok (.bipush 60, 2) := by decide +kernel
theorem dX11_isGap_4 : decode cX11_isGap 4 = .ok (.invokestatic 47, 3) := by decide +kernel
theorem dX11_isGap_7 : decode cX11_isGap 7 = .ok (.ifCond .eq 14, 3) := by decide +kernel
theorem dX11_isGap_10 : decode cX11_isGap 10 = .ok (.bipush 60, 2) := by decide +kernel
theorem dX11_isGap_12 : decode cX11_isGap 12 = .ok (.iload_n 0, 1) := by decide +kernel
theorem dX11_isGap_13 : decode cX11_isGap 13 = .ok (.irem, 1) := by decide +kernel
theorem dX11_isGap_14 : decode cX11_isGap 14 = .ok (.ifCond .ne 7, 3) := by decide +kernel
theorem dX11_isGap_17 : decode cX11_isGap 17 = .ok (.iconst 1, 1) := by decide +kernel
theorem dX11_isGap_18 : decode cX11_isGap 18 = .ok (.goto 4, 3) := by decide +kernel
theorem dX11_isGap_21 : decode cX11_isGap 21 = .ok (.iconst 0, 1) := by decide +kernel
theorem dX11_isGap_22 : decode cX11_isGap 22 = .ok (.ireturn, 1) := by decide +kernel
set_option maxRecDepth 20000 in
theorem ggX11_target_X11_within : GoodIn wsX11_target wsX11_within := goodIn_r _ [6] (by decide +kernel) (by decide +kernel)
set_option maxRecDepth 20000 in
theorem gX11_target_X11_within : GoodIn wsX11_target (va_wsS RX11 47 yX11_within wsX11_within) := goodIn_app (goodIn_of _ (by decide +kernel)) ggX11_target_X11_within
set_option maxRecDepth 20000 in
theorem ggX11_target_X11_isGap : GoodIn wsX11_target wsX11_isGap := goodIn_r _ [9, 3, 4, 5, 6] (by decide +kernel) (by decide +kernel)
set_option maxRecDepth 20000 in
theorem gX11_target_X11_isGap : GoodIn wsX11_target (va_wsS RX11 51 yX11_isGap wsX11_isGap) := goodIn_app (goodIn_of _ (by decide +kernel)) ggX11_target_X11_isGap
theorem dX11_target_0 : decode cX11_target 0 = .ok (.aload_n 0, 1) := by decide +kernel
theorem dX11_target_1 : decode cX11_target 1 = .ok (.getfield 9, 3) := by decide +kernel
theorem dX11_target_4 : decode cX11_target 4 = .ok (.iconst 0, 1) := by decide +kernel
theorem dX11_target_5 : decode cX11_target 5 = .ok (.iaload, 1) := by decide +kernel
theorem dX11_target_6 : decode cX11_target 6 = .ok (.istore 6, 2) := by decide +kernel
theorem dX11_target_8 : decode cX11_target 8 = .ok (.iload_n 1, 1) := by decide +kernel
theorem dX11_target_9 : decode cX11_target 9 = .ok (.iconst 0, 1) := by decide +kernel
theorem dX11_target_10 : decode cX11_target 10 = .ok (.iconst 3, 1) := by decide +kernel
theorem dX11_target_11 : decode cX11_target 11 = .ok (.invokestatic 47, 3) := by decide +kernel
theorem dX11_target_14 : decode cX11_target 14 = .ok (.ifCond .eq 54, 3) := by decide +kernel
theorem dX11_target_17 : decode cX11_target 17 = .ok (.iload_n 2, 1) := by decide +kernel
theorem dX11_target_18 : decode cX11_target 18 = .ok (.bipush (-60), 2) := by decide +kernel
theorem dX11_target_20 : decode cX11_target 20 = .ok (.bipush 60, 2) := by decide +kernel
theorem dX11_target_22 : decode cX11_target 22 = .ok (.invokestatic 47, 3) := by decide +kernel
theorem dX11_target_25 : decode cX11_target 25 = .ok (.ifCond .eq 43, 3) := by decide +kernel
theorem dX11_target_28 : decode cX11_target 28 = .ok (.iload_n 3, 1) := by decide +kernel
theorem dX11_target_29 : decode cX11_target 29 = .ok (.bipush (-60), 2) := by decide +kernel
theorem dX11_target_31 : decode cX11_target 31 = .ok (.bipush 60, 2) := by decide +kernel
theorem dX11_target_33 : decode cX11_target 33 = .ok (.invokestatic 47, 3) := by decide +kernel
theorem dX11_target_36 : decode cX11_target 36 = .ok (.ifCond .eq 32, 3) := by decide +kernel
theorem dX11_target_39 : decode cX11_target 39 = .ok (.iload 4, 2) := by decide +kernel
theorem dX11_target_41 : decode cX11_target 41 = .ok (.bipush (-60), 2) := by decide +kernel
theorem dX11_target_43 : decode cX11_target 43 = .ok (.bipush 60, 2) := by decide +kernel
theorem dX11_target_45 : decode cX11_target 45 = .ok (.invokestatic 47, 3) := by decide +kernel
theorem dX11_target_48 : decode cX11_target 48 = .ok (.ifCond .eq 20, 3) := by decide +kernel
theorem dX11_target_51 : decode cX11_target 51 = .ok (.iload_n 3, 1) := by decide +kernel
theorem dX11_target_52 : decode cX11_target 52 = .ok (.iload_n 2, 1) := by decide +kernel
theorem dX11_target_53 : decode cX11_target 53 = .ok (.if_icmp .gt 15, 3) := by decide +kernel
theorem dX11_target_56 : decode cX11_target 56 = .ok (.iload 5, 2) := by decide +kernel
theorem dX11_target_58 : decode cX11_target 58 = .ok (.invokestatic 51, 3) := by decide +kernel
theorem dX11_target_61 : decode cX11_target 61 = .ok (.ifCond .eq 7, 3) := by decide +kernel
theorem dX11_target_64 : decode cX11_target 64 = .ok (.iconst 1, 1) := by decide +kernel
theorem dX11_target_65 : decode cX11_target 65 = .ok (.goto 4, 3) := by decide +kernel
theorem dX11_target_68 : decode cX11_target 68 = .ok (.iconst 0, 1) := by decide +kernel
theorem dX11_target_69 : decode cX11_target 69 = .ok (.istore 7, 2) := by decide +kernel
theorem dX11_target_71 : decode cX11_target 71 = .ok (.iload 7, 2) := by decide +kernel
theorem dX11_target_73 : decode cX11_target 73 = .ok (.ifCond .eq 10, 3) := by decide +kernel
theorem dX11_target_76 : decode cX11_target 76 = .ok (.iload 6, 2) := by decide +kernel
theorem dX11_target_78 : decode cX11_target 78 = .ok (.bipush 10, 2) := by decide +kernel
theorem dX11_target_80 : decode cX11_target 80 = .ok (.if_icmp .ne 6, 3) := by decide +kernel
theorem dX11_target_83 : decode cX11_target 83 = .ok (.ldc 55, 2) := by decide +kernel
theorem dX11_target_85 : decode cX11_target 85 = .ok (.ireturn, 1) := by decide +kernel
theorem dX11_target_86 : decode cX11_target 86 = .ok (.aload_n 0, 1) := by decide +kernel
theorem dX11_target_87 : decode cX11_target 87 = .ok (.getfield 9, 3) := by decide +kernel
theorem dX11_target_90 : decode cX11_target 90 = .ok (.iconst 5, 1) := by decide +kernel
theorem dX11_target_91 : decode cX11_target 91 = .ok (.iload 6, 2) := by decide +kernel
theorem dX11_target_93 : decode cX11_target 93 = .ok (.iadd, 1) := by decide +kernel
theorem dX11_target_94 : decode cX11_target 94 = .ok (.iload_n 1, 1) := by decide +kernel
theorem dX11_target_95 : decode cX11_target 95 = .ok (.iastore, 1) := by decide +kernel
theorem dX11_target_96 : decode cX11_target 96 = .ok (.aload_n 0, 1) := by decide +kernel
theorem dX11_target_97 : decode cX11_target 97 = .ok (.getfield 9, 3) := by decide +kernel
theorem dX11_target_100 : decode cX11_target 100 = .ok (.bipush 15, 2) := by decide +kernel
theorem dX11_target_102 : decode cX11_target 102 = .ok (.iload 6, 2) := by decide +kernel
theorem dX11_target_104 : decode cX11_target 104 = .ok (.iadd, 1) := by decide +kernel
theorem dX11_target_105 : decode cX11_target 105 = .ok (.iload_n 2, 1) := by decide +kernel
theorem dX11_target_106 : decode cX11_target 106 = .ok (.iastore, 1) := by decide +kernel
theorem dX11_target_107 : decode cX11_target 107 = .ok (.aload_n 0, 1) := by decide +kernel
theorem dX11_target_108 : decode cX11_target 108 = .ok (.getfield 9, 3) := by decide +kernel
theorem dX11_target_111 : decode cX11_target 111 = .ok (.bipush 25, 2) := by decide +kernel
theorem dX11_target_113 : decode cX11_target 113 = .ok (.iload 6, 2) := by decide +kernel
theorem dX11_target_115 : decode cX11_target 115 = .ok (.iadd, 1) := by decide +kernel
theorem dX11_target_116 : decode cX11_target 116 = .ok (.iload_n 3, 1) := by decide +kernel
theorem dX11_target_117 : decode cX11_target 117 = .ok (.iastore, 1) := by decide +kernel
theorem dX11_target_118 : decode cX11_target 118 = .ok (.aload_n 0, 1) := by decide +kernel
theorem dX11_target_119 : decode cX11_target 119 = .ok (.getfield 9, 3) := by decide +kernel
theorem dX11_target_122 : decode cX11_target 122 = .ok (.bipush 35, 2) := by decide +kernel
theorem dX11_target_124 : decode cX11_target 124 = .ok (.iload 6, 2) := by decide +kernel
theorem dX11_target_126 : decode cX11_target 126 = .ok (.iadd, 1) := by decide +kernel
theorem dX11_target_127 : decode cX11_target 127 = .ok (.iload 4, 2) := by decide +kernel
theorem dX11_target_129 : decode cX11_target 129 = .ok (.iastore, 1) := by decide +kernel
theorem dX11_target_130 : decode cX11_target 130 = .ok (.aload_n 0, 1) := by decide +kernel
theorem dX11_target_131 : decode cX11_target 131 = .ok (.getfield 9, 3) := by decide +kernel
theorem dX11_target_134 : decode cX11_target 134 = .ok (.bipush 45, 2) := by decide +kernel
theorem dX11_target_136 : decode cX11_target 136 = .ok (.iload 6, 2) := by decide +kernel
theorem dX11_target_138 : decode cX11_target 138 = .ok (.iadd, 1) := by decide +kernel
theorem dX11_target_139 : decode cX11_target 139 = .ok (.iload 5, 2) := by decide +kernel
theorem dX11_target_141 : decode cX11_target 141 = .ok (.iastore, 1) := by decide +kernel
theorem dX11_target_142 : decode cX11_target 142 = .ok (.aload_n 0, 1) := by decide +kernel
theorem dX11_target_143 : decode cX11_target 143 = .ok (.getfield 9, 3) := by decide +kernel
theorem dX11_target_146 : decode cX11_target 146 = .ok (.bipush 55, 2) := by decide +kernel
theorem dX11_target_148 : decode cX11_target 148 = .ok (.iload 6, 2) := by decide +kernel
theorem dX11_target_150 : decode cX11_target 150 = .ok (.iadd, 1) := by decide +kernel
theorem dX11_target_151 : decode cX11_target 151 = .ok (.iconst 0, 1) := by decide +kernel
theorem dX11_target_152 : decode cX11_target 152 = .ok (.iastore, 1) := by decide +kernel
theorem dX11_target_153 : decode cX11_target 153 = .ok (.aload_n 0, 1) := by decide +kernel
theorem dX11_target_154 : decode cX11_target 154 = .ok (.getfield 9, 3) := by decide +kernel
theorem dX11_target_157 : decode cX11_target 157 = .ok (.bipush 65, 2) := by decide +kernel
theorem dX11_target_159 : decode cX11_target 159 = .ok (.iload 6, 2) := by decide +kernel
theorem dX11_target_161 : decode cX11_target 161 = .ok (.iadd, 1) := by decide +kernel
theorem dX11_target_162 : decode cX11_target 162 = .ok (.iload_n 1, 1) := by decide +kernel
theorem dX11_target_163 : decode cX11_target 163 = .ok (.iconst 1, 1) := by decide +kernel
theorem dX11_target_164 : decode cX11_target 164 = .ok (.if_icmp .ne 7, 3) := by decide +kernel
theorem dX11_target_167 : decode cX11_target 167 = .ok (.iconst 0, 1) := by decide +kernel
theorem dX11_target_168 : decode cX11_target 168 = .ok (.goto 5, 3) := by decide +kernel
theorem dX11_target_171 : decode cX11_target 171 = .ok (.bipush 60, 2) := by decide +kernel
theorem dX11_target_173 : decode cX11_target 173 = .ok (.iastore, 1) := by decide +kernel
theorem dX11_target_174 : decode cX11_target 174 = .ok (.aload_n 0, 1) := by decide +kernel
theorem dX11_target_175 : decode cX11_target 175 = .ok (.getfield 9, 3) := by decide +kernel
theorem dX11_target_178 : decode cX11_target 178 = .ok (.bipush 75, 2) := by decide +kernel
theorem dX11_target_180 : decode cX11_target 180 = .ok (.iload 6, 2) := by decide +kernel
theorem dX11_target_182 : decode cX11_target 182 = .ok (.iadd, 1) := by decide +kernel
theorem dX11_target_183 : decode cX11_target 183 = .ok (.iconst 0, 1) := by decide +kernel
theorem dX11_target_184 : decode cX11_target 184 = .ok (.iastore, 1) := by decide +kernel
theorem dX11_target_185 : decode cX11_target 185 = .ok (.aload_n 0, 1) := by decide +kernel
theorem dX11_target_186 : decode cX11_target 186 = .ok (.getfield 9, 3) := by decide +kernel
theorem dX11_target_189 : decode cX11_target 189 = .ok (.iconst 0, 1) := by decide +kernel
theorem dX11_target_190 : decode cX11_target 190 = .ok (.dup2, 1) := by decide +kernel
theorem dX11_target_191 : decode cX11_target 191 = .ok (.iaload, 1) := by decide +kernel
theorem dX11_target_192 : decode cX11_target 192 = .ok (.iconst 1, 1) := by decide +kernel
theorem dX11_target_193 : decode cX11_target 193 = .ok (.iadd, 1) := by decide +kernel
theorem dX11_target_194 : decode cX11_target 194 = .ok (.iastore, 1) := by decide +kernel
theorem dX11_target_195 : decode cX11_target 195 = .ok (.iload 6, 2) := by decide +kernel
theorem dX11_target_197 : decode cX11_target 197 = .ok (.ireturn, 1) := by decide +kernel
set_option maxRecDepth 20000 in
theorem ggX11_bounds_X11_isTarget : GoodIn wsX11_bounds wsX11_isTarget := goodIn_r _ [8, 2, 9, 10, 7, 11, 17, 18, 19, 20, 21, 22, 23, 24, 25, 26, 27, 28, 29, 30, 31, 32, 33, 34, 35] (by decide +kernel) (by decide +kernel)
set_option maxRecDepth 20000 in
theorem gX11_bounds_X11_isTarget : GoodIn wsX11_bounds (wsV RX11 56 RX11 yX11_isTarget wsX11_isTarget) := goodIn_app (goodIn_of _ (by decide +kernel)) ggX11_bounds_X11_isTarget
set_option maxRecDepth 20000 in
theorem ggX11_bounds_X11_within : GoodIn wsX11_bounds wsX11_within := goodIn_r _ [11] (by decide +kernel) (by decide +kernel)
set_option maxRecDepth 20000 in
theorem gX11_bounds_X11_within : GoodIn wsX11_bounds (va_wsS RX11 47 yX11_within wsX11_within) := goodIn_app (goodIn_of _ (by decide +kernel)) ggX11_bounds_X11_within
set_option maxRecDepth 20000 in
theorem ggX11_bounds_X11_found : GoodIn wsX11_bounds wsX11_found := goodIn_r _ [15, 16, 17, 18, 19, 20, 21, 22, 23, 24, 25, 26, 27, 28, 29, 30, 31, 32, 33, 34, 35] (by decide +kernel) (by decide +kernel)
set_option maxRecDepth 20000 in
theorem gX11_bounds_X11_found : GoodIn wsX11_bounds (wsV RX11 60 RX11 yX11_found wsX11_found) := goodIn_app (goodIn_of _ (by decide +kernel)) ggX11_bounds_X11_found
theorem dX11_bounds_0 : decode cX11_bounds 0 = .ok (.aload_n 0, 1) := by decide +kernel
theorem dX11_bounds_1 : decode cX11_bounds 1 = .ok (.iload_n 1, 1) := by decide +kernel
theorem dX11_bounds_2 : decode cX11_bounds 2 = .ok (.invokevirtual 56, 3) := by decide +kernel
theorem dX11_bounds_5 : decode cX11_bounds 5 = .ok (.ifCond .eq 22, 3) := by decide +kernel
theorem dX11_bounds_8 : decode cX11_bounds 8 = .ok (.iload_n 3, 1) := by decide +kernel
theorem dX11_bounds_9 : decode cX11_bounds 9 = .ok (.iconst 0, 1) := by decide +kernel
theorem dX11_bounds_10 : decode cX11_bounds 10 = .ok (.bipush 60, 2) := by decide +kernel
theorem dX11_bounds_12 : decode cX11_bounds 12 = .ok (.invokestatic 47, 3) := by decide +kernel
theorem dX11_bounds_15 : decode cX11_bounds 15 = .ok (.ifCond .eq 12, 3) := by decide +kernel
theorem dX11_bounds_18 : decode cX11_bounds 18 = .ok (.iload_n 2, 1) := by decide +kernel
theorem dX11_bounds_19 : decode cX11_bounds 19 = .ok (.iconst 0, 1) := by decide +kernel
theorem dX11_bounds_20 : decode cX11_bounds 20 = .ok (.iload_n 3, 1) := by decide +kernel
theorem dX11_bounds_21 : decode cX11_bounds 21 = .ok (.invokestatic 47, 3) := by decide +kernel
theorem dX11_bounds_24 : decode cX11_bounds 24 = .ok (.ifCond .ne 6, 3) := by decide +kernel
theorem dX11_bounds_27 : decode cX11_bounds 27 = .ok (.ldc 55, 2) := by decide +kernel
theorem dX11_bounds_29 : decode cX11_bounds 29 = .ok (.ireturn, 1) := by decide +kernel
theorem dX11_bounds_30 : decode cX11_bounds 30 = .ok (.aload_n 0, 1) := by decide +kernel
theorem dX11_bounds_31 : decode cX11_bounds 31 = .ok (.getfield 9, 3) := by decide +kernel
theorem dX11_bounds_34 : decode cX11_bounds 34 = .ok (.iconst 5, 1) := by decide +kernel
theorem dX11_bounds_35 : decode cX11_bounds 35 = .ok (.iload_n 1, 1) := by decide +kernel
theorem dX11_bounds_36 : decode cX11_bounds 36 = .ok (.iadd, 1) := by decide +kernel
theorem dX11_bounds_37 : decode cX11_bounds 37 = .ok (.iaload, 1) := by decide +kernel
theorem dX11_bounds_38 : decode cX11_bounds 38 = .ok (.istore 4, 2) := by decide +kernel
theorem dX11_bounds_40 : decode cX11_bounds 40 = .ok (.iload 4, 2) := by decide +kernel
theorem dX11_bounds_42 : decode cX11_bounds 42 = .ok (.iconst 2, 1) := by decide +kernel
theorem dX11_bounds_43 : decode cX11_bounds 43 = .ok (.if_icmp .eq 16, 3) := by decide +kernel
theorem dX11_bounds_46 : decode cX11_bounds 46 = .ok (.iload 4, 2) := by decide +kernel
theorem dX11_bounds_48 : decode cX11_bounds 48 = .ok (.iconst 3, 1) := by decide +kernel
theorem dX11_bounds_49 : decode cX11_bounds 49 = .ok (.if_icmp .eq 10, 3) := by decide +kernel
theorem dX11_bounds_52 : decode cX11_bounds 52 = .ok (.aload_n 0, 1) := by decide +kernel
theorem dX11_bounds_53 : decode cX11_bounds 53 = .ok (.ldc 59, 2) := by decide +kernel
theorem dX11_bounds_55 : decode cX11_bounds 55 = .ok (.invokevirtual 60, 3) := by decide +kernel
theorem dX11_bounds_58 : decode cX11_bounds 58 = .ok (.ireturn, 1) := by decide +kernel
theorem dX11_bounds_59 : decode cX11_bounds 59 = .ok (.iload 4, 2) := by decide +kernel
theorem dX11_bounds_61 : decode cX11_bounds 61 = .ok (.iconst 2, 1) := by decide +kernel
theorem dX11_bounds_62 : decode cX11_bounds 62 = .ok (.if_icmp .ne 10, 3) := by decide +kernel
theorem dX11_bounds_65 : decode cX11_bounds 65 = .ok (.iload_n 2, 1) := by decide +kernel
theorem dX11_bounds_66 : decode cX11_bounds 66 = .ok (.ifCond .eq 6, 3) := by decide +kernel
theorem dX11_bounds_69 : decode cX11_bounds 69 = .ok (.ldc 55, 2) := by decide +kernel
theorem dX11_bounds_71 : decode cX11_bounds 71 = .ok (.ireturn, 1) := by decide +kernel
theorem dX11_bounds_72 : decode cX11_bounds 72 = .ok (.aload_n 0, 1) := by decide +kernel
theorem dX11_bounds_73 : decode cX11_bounds 73 = .ok (.getfield 9, 3) := by decide +kernel
theorem dX11_bounds_76 : decode cX11_bounds 76 = .ok (.bipush 55, 2) := by decide +kernel
theorem dX11_bounds_78 : decode cX11_bounds 78 = .ok (.iload_n 1, 1) := by decide +kernel
theorem dX11_bounds_79 : decode cX11_bounds 79 = .ok (.iadd, 1) := by decide +kernel
theorem dX11_bounds_80 : decode cX11_bounds 80 = .ok (.iload_n 2, 1) := by decide +kernel
theorem dX11_bounds_81 : decode cX11_bounds 81 = .ok (.iastore, 1) := by decide +kernel
theorem dX11_bounds_82 : decode cX11_bounds 82 = .ok (.aload_n 0, 1) := by decide +kernel
theorem dX11_bounds_83 : decode cX11_bounds 83 = .ok (.getfield 9, 3) := by decide +kernel
theorem dX11_bounds_86 : decode cX11_bounds 86 = .ok (.bipush 65, 2) := by decide +kernel
theorem dX11_bounds_88 : decode cX11_bounds 88 = .ok (.iload_n 1, 1) := by decide +kernel
theorem dX11_bounds_89 : decode cX11_bounds 89 = .ok (.iadd, 1) := by decide +kernel
theorem dX11_bounds_90 : decode cX11_bounds 90 = .ok (.iload_n 3, 1) := by decide +kernel
theorem dX11_bounds_91 : decode cX11_bounds 91 = .ok (.iastore, 1) := by decide +kernel
theorem dX11_bounds_92 : decode cX11_bounds 92 = .ok (.iconst 1, 1) := by decide +kernel
theorem dX11_bounds_93 : decode cX11_bounds 93 = .ok (.ireturn, 1) := by decide +kernel
set_option maxRecDepth 20000 in
theorem ggX11_guards_X11_within : GoodIn wsX11_guards wsX11_within := goodIn_r _ [6] (by decide +kernel) (by decide +kernel)
set_option maxRecDepth 20000 in
theorem gX11_guards_X11_within : GoodIn wsX11_guards (va_wsS RX11 47 yX11_within wsX11_within) := goodIn_app (goodIn_of _ (by decide +kernel)) ggX11_guards_X11_within
theorem dX11_guards_0 : decode cX11_guards 0 = .ok (.iload_n 1, 1) := by decide +kernel
theorem dX11_guards_1 : decode cX11_guards 1 = .ok (.iconst 0, 1) := by decide +kernel
theorem dX11_guards_2 : decode cX11_guards 2 = .ok (.bipush 10, 2) := by decide +kernel
theorem dX11_guards_4 : decode cX11_guards 4 = .ok (.invokestatic 47, 3) := by decide +kernel
theorem dX11_guards_7 : decode cX11_guards 7 = .ok (.ifCond .ne 6, 3) := by decide +kernel
theorem dX11_guards_10 : decode cX11_guards 10 = .ok (.ldc 55, 2) := by decide +kernel
theorem dX11_guards_12 : decode cX11_guards 12 = .ok (.ireturn, 1) := by decide +kernel
theorem dX11_guards_13 : decode cX11_guards 13 = .ok (.aload_n 0, 1) := by decide +kernel
theorem dX11_guards_14 : decode cX11_guards 14 = .ok (.getfield 9, 3) := by decide +kernel
theorem dX11_guards_17 : decode cX11_guards 17 = .ok (.iconst 1, 1) := by decide +kernel
theorem dX11_guards_18 : decode cX11_guards 18 = .ok (.iaload, 1) := by decide +kernel
theorem dX11_guards_19 : decode cX11_guards 19 = .ok (.istore_n 2, 1) := by decide +kernel
theorem dX11_guards_20 : decode cX11_guards 20 = .ok (.aload_n 0, 1) := by decide +kernel
theorem dX11_guards_21 : decode cX11_guards 21 = .ok (.getfield 9, 3) := by decide +kernel
theorem dX11_guards_24 : decode cX11_guards 24 = .ok (.iconst 1, 1) := by decide +kernel
theorem dX11_guards_25 : decode cX11_guards 25 = .ok (.iload_n 1, 1) := by decide +kernel
theorem dX11_guards_26 : decode cX11_guards 26 = .ok (.iastore, 1) := by decide +kernel
theorem dX11_guards_27 : decode cX11_guards 27 = .ok (.iload_n 2, 1) := by decide +kernel
theorem dX11_guards_28 : decode cX11_guards 28 = .ok (.ireturn, 1) := by decide +kernel
set_option maxRecDepth 20000 in
theorem ggX11_of_X11_isTarget : GoodIn wsX11_of wsX11_isTarget := goodIn_r _ [7, 1, 8, 9, 6, 10, 11, 12, 13, 14, 15, 16, 17, 18, 19, 20, 21, 22, 23, 24, 25, 26, 27, 28, 29] (by decide +kernel) (by decide +kernel)
set_option maxRecDepth 20000 in
theorem gX11_of_X11_isTarget : GoodIn wsX11_of (wsV RX11 56 RX11 yX11_isTarget wsX11_isTarget) := goodIn_app (goodIn_of _ (by decide +kernel)) ggX11_of_X11_isTarget
set_option maxRecDepth 20000 in
theorem ggX11_of_X11_within : GoodIn wsX11_of wsX11_within := goodIn_r _ [10] (by decide +kernel) (by decide +kernel)
set_option maxRecDepth 20000 in
theorem gX11_of_X11_within : GoodIn wsX11_of (va_wsS RX11 47 yX11_within wsX11_within) := goodIn_app (goodIn_of _ (by decide +kernel)) ggX11_of_X11_within
theorem dX11_of_0 : decode cX11_of 0 = .ok (.aload_n 0, 1) := by decide +kernel
theorem dX11_of_1 : decode cX11_of 1 = .ok (.iload_n 1, 1) := by decide +kernel
theorem dX11_of_2 : decode cX11_of 2 = .ok (.invokevirtual 56, 3) := by decide +kernel
theorem dX11_of_5 : decode cX11_of 5 = .ok (.ifCond .eq 29, 3) := by decide +kernel
theorem dX11_of_8 : decode cX11_of 8 = .ok (.iload_n 2, 1) := by decide +kernel
theorem dX11_of_9 : decode cX11_of 9 = .ok (.iconst 0, 1) := by decide +kernel
theorem dX11_of_10 : decode cX11_of 10 = .ok (.bipush 7, 2) := by decide +kernel
theorem dX11_of_12 : decode cX11_of 12 = .ok (.invokestatic 47, 3) := by decide +kernel
theorem dX11_of_15 : decode cX11_of 15 = .ok (.ifCond .eq 19, 3) := by decide +kernel
theorem dX11_of_18 : decode cX11_of 18 = .ok (.aload_n 0, 1) := by decide +kernel
theorem dX11_of_19 : decode cX11_of 19 = .ok (.getfield 9, 3) := by decide +kernel
theorem dX11_of_22 : decode cX11_of 22 = .ok (.iconst 5, 1) := by decide +kernel
theorem dX11_of_23 : decode cX11_of 23 = .ok (.bipush 10, 2) := by decide +kernel
theorem dX11_of_25 : decode cX11_of 25 = .ok (.iload_n 2, 1) := by decide +kernel
theorem dX11_of_26 : decode cX11_of 26 = .ok (.imul, 1) := by decide +kernel
theorem dX11_of_27 : decode cX11_of 27 = .ok (.iadd, 1) := by decide +kernel
theorem dX11_of_28 : decode cX11_of 28 = .ok (.iload_n 1, 1) := by decide +kernel
theorem dX11_of_29 : decode cX11_of 29 = .ok (.iadd, 1) := by decide +kernel
theorem dX11_of_30 : decode cX11_of 30 = .ok (.iaload, 1) := by decide +kernel
theorem dX11_of_31 : decode cX11_of 31 = .ok (.goto 5, 3) := by decide +kernel
theorem dX11_of_34 : decode cX11_of 34 = .ok (.ldc 55, 2) := by decide +kernel
theorem dX11_of_36 : decode cX11_of 36 = .ok (.ireturn, 1) := by decide +kernel
set_option maxRecDepth 20000 in
theorem ggX11_drop_X11_found : GoodIn wsX11_drop wsX11_found := goodIn_r _ [7, 8, 9, 10, 11, 12, 13, 14, 15, 16, 17, 18, 19, 20, 21, 22, 23, 24, 25, 26, 27] (by decide +kernel) (by decide +kernel)
set_option maxRecDepth 20000 in
theorem gX11_drop_X11_found : GoodIn wsX11_drop (wsV RX11 60 RX11 yX11_found wsX11_found) := goodIn_app (goodIn_of _ (by decide +kernel)) ggX11_drop_X11_found
theorem dX11_drop_0 : decode cX11_drop 0 = .ok (.aload_n 0, 1) := by decide +kernel
theorem dX11_drop_1 : decode cX11_drop 1 = .ok (.getfield 9, 3) := by decide +kernel
theorem dX11_drop_4 : decode cX11_drop 4 = .ok (.iconst 0, 1) := by decide +kernel
theorem dX11_drop_5 : decode cX11_drop 5 = .ok (.iaload, 1) := by decide +kernel
theorem dX11_drop_6 : decode cX11_drop 6 = .ok (.ifCond .ne 10, 3) := by decide +kernel
theorem dX11_drop_9 : decode cX11_drop 9 = .ok (.aload_n 0, 1) := by decide +kernel
theorem dX11_drop_10 : decode cX11_drop 10 = .ok (.ldc 64, 2) := by decide +kernel
theorem dX11_drop_12 : decode cX11_drop 12 = .ok (.invokevirtual 60, 3) := by decide +kernel
theorem dX11_drop_15 : decode cX11_drop 15 = .ok (.ireturn, 1) := by decide +kernel
theorem dX11_drop_16 : decode cX11_drop 16 = .ok (.aload_n 0, 1) := by decide +kernel
theorem dX11_drop_17 : decode cX11_drop 17 = .ok (.getfield 9, 3) := by decide +kernel
theorem dX11_drop_20 : decode cX11_drop 20 = .ok (.iconst 0, 1) := by decide +kernel
theorem dX11_drop_21 : decode cX11_drop 21 = .ok (.dup2, 1) := by decide +kernel
theorem dX11_drop_22 : decode cX11_drop 22 = .ok (.iaload, 1) := by decide +kernel
theorem dX11_drop_23 : decode cX11_drop 23 = .ok (.iconst 1, 1) := by decide +kernel
theorem dX11_drop_24 : decode cX11_drop 24 = .ok (.isub, 1) := by decide +kernel
theorem dX11_drop_25 : decode cX11_drop 25 = .ok (.iastore, 1) := by decide +kernel
theorem dX11_drop_26 : decode cX11_drop 26 = .ok (.aload_n 0, 1) := by decide +kernel
theorem dX11_drop_27 : decode cX11_drop 27 = .ok (.getfield 9, 3) := by decide +kernel
theorem dX11_drop_30 : decode cX11_drop 30 = .ok (.iconst 0, 1) := by decide +kernel
theorem dX11_drop_31 : decode cX11_drop 31 = .ok (.iaload, 1) := by decide +kernel
theorem dX11_drop_32 : decode cX11_drop 32 = .ok (.ireturn, 1) := by decide +kernel
theorem dX11_common_0 : decode cX11_common 0 = .ok (.lload_n 0, 1) := by decide +kernel
theorem dX11_common_1 : decode cX11_common 1 = .ok (.lconst 0, 1) := by decide +kernel
theorem dX11_common_2 : decode cX11_common 2 = .ok (.lcmp, 1) := by decide +kernel
theorem dX11_common_3 : decode cX11_common 3 = .ok (.ifCond .ge 8, 3) := by decide +kernel
theorem dX11_common_6 : decode cX11_common 6 = .ok (.lload_n 0, 1) := by decide +kernel
theorem dX11_common_7 : decode cX11_common 7 = .ok (.lneg, 1) := by decide +kernel
theorem dX11_common_8 : decode cX11_common 8 = .ok (.goto 4, 3) := by decide +kernel
theorem dX11_common_11 : decode cX11_common 11 = .ok (.lload_n 0, 1) := by decide +kernel
theorem dX11_common_12 : decode cX11_common 12 = .ok (.lstore 4, 2) := by decide +kernel
theorem dX11_common_14 : decode cX11_common 14 = .ok (.lload_n 2, 1) := by decide +kernel
theorem dX11_common_15 : decode cX11_common 15 = .ok (.lstore 6, 2) := by decide +kernel
theorem dX11_common_17 : decode cX11_common 17 = .ok (.lload 6, 2) := by decide +kernel
theorem dX11_common_19 : decode cX11_common 19 = .ok (.lconst 0, 1) := by decide +kernel
theorem dX11_common_20 : decode cX11_common 20 = .ok (.lcmp, 1) := by decide +kernel
theorem dX11_common_21 : decode cX11_common 21 = .ok (.ifCond .eq 21, 3) := by decide +kernel
theorem dX11_common_24 : decode cX11_common 24 = .ok (.lload 4, 2) := by decide +kernel
theorem dX11_common_26 : decode cX11_common 26 = .ok (.lload 6, 2) := by decide +kernel
theorem dX11_common_28 : decode cX11_common 28 = .ok (.lrem, 1) := by decide +kernel
theorem dX11_common_29 : decode cX11_common 29 = .ok (.lstore 8, 2) := by decide +kernel
theorem dX11_common_31 : decode cX11_common 31 = .ok (.lload 6, 2) := by decide +kernel
theorem dX11_common_33 : decode cX11_common 33 = .ok (.lstore 4, 2) := by decide +kernel
theorem dX11_common_35 : decode cX11_common 35 = .ok (.lload 8, 2) := by decide +kernel
theorem dX11_common_37 : decode cX11_common 37 = .ok (.lstore 6, 2) := by decide +kernel
theorem dX11_common_39 : decode cX11_common 39 = .ok (.goto (-22), 3) := by decide +kernel
theorem dX11_common_42 : decode cX11_common 42 = .ok (.lload 4, 2) := by decide +kernel
theorem dX11_common_44 : decode cX11_common 44 = .ok (.lreturn, 1) := by decide +kernel
set_option maxRecDepth 20000 in
theorem ggX11_fraction_X11_common : GoodIn wsX11_fraction wsX11_common := goodIn_r _ [5] (by decide +kernel) (by decide +kernel)
set_option maxRecDepth 20000 in
theorem gX11_fraction_X11_common : GoodIn wsX11_fraction (va_wsS RX11 65 yX11_common wsX11_common) := goodIn_app (goodIn_of _ (by decide +kernel)) ggX11_fraction_X11_common
theorem dX11_fraction_0 : decode cX11_fraction 0 = .ok (.lload_n 1, 1) := by decide +kernel
theorem dX11_fraction_1 : decode cX11_fraction 1 = .ok (.lload_n 3, 1) := by decide +kernel
theorem dX11_fraction_2 : decode cX11_fraction 2 = .ok (.invokestatic 65, 3) := by decide +kernel
theorem dX11_fraction_5 : decode cX11_fraction 5 = .ok (.lstore 5, 2) := by decide +kernel
theorem dX11_fraction_7 : decode cX11_fraction 7 = .ok (.aload_n 0, 1) := by decide +kernel
theorem dX11_fraction_8 : decode cX11_fraction 8 = .ok (.lload_n 3, 1) := by decide +kernel
theorem dX11_fraction_9 : decode cX11_fraction 9 = .ok (.lload 5, 2) := by decide +kernel
theorem dX11_fraction_11 : decode cX11_fraction 11 = .ok (.ldiv, 1) := by decide +kernel
theorem dX11_fraction_12 : decode cX11_fraction 12 = .ok (.l2i, 1) := by decide +kernel
theorem dX11_fraction_13 : decode cX11_fraction 13 = .ok (.putfield 16, 3) := by decide +kernel
theorem dX11_fraction_16 : decode cX11_fraction 16 = .ok (.lload_n 1, 1) := by decide +kernel
theorem dX11_fraction_17 : decode cX11_fraction 17 = .ok (.lload 5, 2) := by decide +kernel
theorem dX11_fraction_19 : decode cX11_fraction 19 = .ok (.ldiv, 1) := by decide +kernel
theorem dX11_fraction_20 : decode cX11_fraction 20 = .ok (.l2i, 1) := by decide +kernel
theorem dX11_fraction_21 : decode cX11_fraction 21 = .ok (.ireturn, 1) := by decide +kernel
theorem dX11_atMost_0 : decode cX11_atMost 0 = .ok (.lload_n 1, 1) := by decide +kernel
theorem dX11_atMost_1 : decode cX11_atMost 1 = .ok (.aload_n 0, 1) := by decide +kernel
theorem dX11_atMost_2 : decode cX11_atMost 2 = .ok (.getfield 69, 3) := by decide +kernel
theorem dX11_atMost_5 : decode cX11_atMost 5 = .ok (.lmul, 1) := by decide +kernel
theorem dX11_atMost_6 : decode cX11_atMost 6 = .ok (.aload_n 0, 1) := by decide +kernel
theorem dX11_atMost_7 : decode cX11_atMost 7 = .ok (.getfield 73, 3) := by decide +kernel
theorem dX11_atMost_10 : decode cX11_atMost 10 = .ok (.lload_n 3, 1) := by decide +kernel
theorem dX11_atMost_11 : decode cX11_atMost 11 = .ok (.lmul, 1) := by decide +kernel
theorem dX11_atMost_12 : decode cX11_atMost 12 = .ok (.lcmp, 1) := by decide +kernel
theorem dX11_atMost_13 : decode cX11_atMost 13 = .ok (.ifCond .ge 13, 3) := by decide +kernel
theorem dX11_atMost_16 : decode cX11_atMost 16 = .ok (.aload_n 0, 1) := by decide +kernel
theorem dX11_atMost_17 : decode cX11_atMost 17 = .ok (.lload_n 1, 1) := by decide +kernel
theorem dX11_atMost_18 : decode cX11_atMost 18 = .ok (.putfield 73, 3) := by decide +kernel
theorem dX11_atMost_21 : decode cX11_atMost 21 = .ok (.aload_n 0, 1) := by decide +kernel
theorem dX11_atMost_22 : decode cX11_atMost 22 = .ok (.lload_n 3, 1) := by decide +kernel
theorem dX11_atMost_23 : decode cX11_atMost 23 = .ok (.putfield 69, 3) := by decide +kernel
theorem dX11_atMost_26 : decode cX11_atMost 26 = .ok (.return_, 1) := by decide +kernel
set_option maxRecDepth 20000 in
theorem ggX11_find_X11_atMost : GoodIn wsX11_find wsX11_atMost := goodIn_r _ [9, 4, 2, 10, 11, 12, 13, 14, 15, 16, 17, 18, 19, 20, 21, 22, 23, 24, 25, 26, 27, 28] (by decide +kernel) (by decide +kernel)
set_option maxRecDepth 20000 in
theorem gX11_find_X11_atMost : GoodIn wsX11_find (wsV RX11 78 RX11 yX11_atMost wsX11_atMost) := goodIn_app (goodIn_of _ (by decide +kernel)) ggX11_find_X11_atMost
theorem dX11_find_0 : decode cX11_find 0 = .ok (.aload_n 0, 1) := by decide +kernel
theorem dX11_find_1 : decode cX11_find 1 = .ok (.getfield 9, 3) := by decide +kernel
theorem dX11_find_4 : decode cX11_find 4 = .ok (.iconst 0, 1) := by decide +kernel
theorem dX11_find_5 : decode cX11_find 5 = .ok (.iaload, 1) := by decide +kernel
theorem dX11_find_6 : decode cX11_find 6 = .ok (.istore_n 2, 1) := by decide +kernel
theorem dX11_find_7 : decode cX11_find 7 = .ok (.aload_n 0, 1) := by decide +kernel
theorem dX11_find_8 : decode cX11_find 8 = .ok (.getfield 9, 3) := by decide +kernel
theorem dX11_find_11 : decode cX11_find 11 = .ok (.bipush 45, 2) := by decide +kernel
theorem dX11_find_13 : decode cX11_find 13 = .ok (.iload_n 1, 1) := by decide +kernel
theorem dX11_find_14 : decode cX11_find 14 = .ok (.iadd, 1) := by decide +kernel
theorem dX11_find_15 : decode cX11_find 15 = .ok (.iaload, 1) := by decide +kernel
theorem dX11_find_16 : decode cX11_find 16 = .ok (.i2l, 1) := by decide +kernel
theorem dX11_find_17 : decode cX11_find 17 = .ok (.lstore_n 3, 1) := by decide +kernel
theorem dX11_find_18 : decode cX11_find 18 = .ok (.aload_n 0, 1) := by decide +kernel
theorem dX11_find_19 : decode cX11_find 19 = .ok (.aload_n 0, 1) := by decide +kernel
theorem dX11_find_20 : decode cX11_find 20 = .ok (.getfield 9, 3) := by decide +kernel
theorem dX11_find_23 : decode cX11_find 23 = .ok (.bipush 65, 2) := by decide +kernel
theorem dX11_find_25 : decode cX11_find 25 = .ok (.iload_n 1, 1) := by decide +kernel
theorem dX11_find_26 : decode cX11_find 26 = .ok (.iadd, 1) := by decide +kernel
theorem dX11_find_27 : decode cX11_find 27 = .ok (.iaload, 1) := by decide +kernel
theorem dX11_find_28 : decode cX11_find 28 = .ok (.i2l, 1) := by decide +kernel
theorem dX11_find_29 : decode cX11_find 29 = .ok (.putfield 73, 3) := by decide +kernel
theorem dX11_find_32 : decode cX11_find 32 = .ok (.aload_n 0, 1) := by decide +kernel
theorem dX11_find_33 : decode cX11_find 33 = .ok (.ldc2_w 76, 3) := by decide +kernel
theorem dX11_find_36 : decode cX11_find 36 = .ok (.putfield 69, 3) := by decide +kernel
theorem dX11_find_39 : decode cX11_find 39 = .ok (.iconst 0, 1) := by decide +kernel
theorem dX11_find_40 : decode cX11_find 40 = .ok (.istore 5, 2) := by decide +kernel
theorem dX11_find_42 : decode cX11_find 42 = .ok (.iload 5, 2) := by decide +kernel
theorem dX11_find_44 : decode cX11_find 44 = .ok (.iload_n 2, 1) := by decide +kernel
theorem dX11_find_45 : decode cX11_find 45 = .ok (.if_icmp .ge 72, 3) := by decide +kernel
theorem dX11_find_48 : decode cX11_find 48 = .ok (.iload 5, 2) := by decide +kernel
theorem dX11_find_50 : decode cX11_find 50 = .ok (.iload_n 1, 1) := by decide +kernel
theorem dX11_find_51 : decode cX11_find 51 = .ok (.if_icmp .eq 60, 3) := by decide +kernel
theorem dX11_find_54 : decode cX11_find 54 = .ok (.aload_n 0, 1) := by decide +kernel
theorem dX11_find_55 : decode cX11_find 55 = .ok (.ldc2_w 76, 3) := by decide +kernel
theorem dX11_find_58 : decode cX11_find 58 = .ok (.aload_n 0, 1) := by decide +kernel
theorem dX11_find_59 : decode cX11_find 59 = .ok (.getfield 9, 3) := by decide +kernel
theorem dX11_find_62 : decode cX11_find 62 = .ok (.bipush 35, 2) := by decide +kernel
theorem dX11_find_64 : decode cX11_find 64 = .ok (.iload_n 1, 1) := by decide +kernel
theorem dX11_find_65 : decode cX11_find 65 = .ok (.iadd, 1) := by decide +kernel
theorem dX11_find_66 : decode cX11_find 66 = .ok (.iaload, 1) := by decide +kernel
theorem dX11_find_67 : decode cX11_find 67 = .ok (.aload_n 0, 1) := by decide +kernel
theorem dX11_find_68 : decode cX11_find 68 = .ok (.getfield 9, 3) := by decide +kernel
theorem dX11_find_71 : decode cX11_find 71 = .ok (.bipush 35, 2) := by decide +kernel
theorem dX11_find_73 : decode cX11_find 73 = .ok (.iload 5, 2) := by decide +kernel
theorem dX11_find_75 : decode cX11_find 75 = .ok (.iadd, 1) := by decide +kernel
theorem dX11_find_76 : decode cX11_find 76 = .ok (.iaload, 1) := by decide +kernel
theorem dX11_find_77 : decode cX11_find 77 = .ok (.isub, 1) := by decide +kernel
theorem dX11_find_78 : decode cX11_find 78 = .ok (.i2l, 1) := by decide +kernel
theorem dX11_find_79 : decode cX11_find 79 = .ok (.lmul, 1) := by decide +kernel
theorem dX11_find_80 : decode cX11_find 80 = .ok (.aload_n 0, 1) := by decide +kernel
theorem dX11_find_81 : decode cX11_find 81 = .ok (.getfield 9, 3) := by decide +kernel
theorem dX11_find_84 : decode cX11_find 84 = .ok (.bipush 65, 2) := by decide +kernel
theorem dX11_find_86 : decode cX11_find 86 = .ok (.iload 5, 2) := by decide +kernel
theorem dX11_find_88 : decode cX11_find 88 = .ok (.iadd, 1) := by decide +kernel
theorem dX11_find_89 : decode cX11_find 89 = .ok (.iaload, 1) := by decide +kernel
theorem dX11_find_90 : decode cX11_find 90 = .ok (.aload_n 0, 1) := by decide +kernel
theorem dX11_find_91 : decode cX11_find 91 = .ok (.getfield 9, 3) := by decide +kernel
theorem dX11_find_94 : decode cX11_find 94 = .ok (.bipush 45, 2) := by decide +kernel
theorem dX11_find_96 : decode cX11_find 96 = .ok (.iload 5, 2) := by decide +kernel
theorem dX11_find_98 : decode cX11_find 98 = .ok (.iadd, 1) := by decide +kernel
theorem dX11_find_99 : decode cX11_find 99 = .ok (.iaload, 1) := by decide +kernel
theorem dX11_find_100 : decode cX11_find 100 = .ok (.imul, 1) := by decide +kernel
theorem dX11_find_101 : decode cX11_find 101 = .ok (.i2l, 1) := by decide +kernel
theorem dX11_find_102 : decode cX11_find 102 = .ok (.ladd, 1) := by decide +kernel
theorem dX11_find_103 : decode cX11_find 103 = .ok (.ldc2_w 76, 3) := by decide +kernel
theorem dX11_find_106 : decode cX11_find 106 = .ok (.lload_n 3, 1) := by decide +kernel
theorem dX11_find_107 : decode cX11_find 107 = .ok (.lmul, 1) := by decide +kernel
theorem dX11_find_108 : decode cX11_find 108 = .ok (.invokevirtual 78, 3) := by decide +kernel
theorem dX11_find_111 : decode cX11_find 111 = .ok (.iinc 5 1, 3) := by decide +kernel
theorem dX11_find_114 : decode cX11_find 114 = .ok (.goto (-72), 3) := by decide +kernel
theorem dX11_find_117 : decode cX11_find 117 = .ok (.iconst 0, 1) := by decide +kernel
theorem dX11_find_118 : decode cX11_find 118 = .ok (.istore 5, 2) := by decide +kernel
theorem dX11_find_120 : decode cX11_find 120 = .ok (.iload 5, 2) := by decide +kernel
theorem dX11_find_122 : decode cX11_find 122 = .ok (.iconst 1, 1) := by decide +kernel
theorem dX11_find_123 : decode cX11_find 123 = .ok (.iload_n 2, 1) := by decide +kernel
theorem dX11_find_124 : decode cX11_find 124 = .ok (.ishl, 1) := by decide +kernel
theorem dX11_find_125 : decode cX11_find 125 = .ok (.if_icmp .ge 157, 3) := by decide +kernel
theorem dX11_find_128 : decode cX11_find 128 = .ok (.iload 5, 2) := by decide +kernel
theorem dX11_find_130 : decode cX11_find 130 = .ok (.iload_n 1, 1) := by decide +kernel
theorem dX11_find_131 : decode cX11_find 131 = .ok (.ishr, 1) := by decide +kernel
theorem dX11_find_132 : decode cX11_find 132 = .ok (.iconst 1, 1) := by decide +kernel
theorem dX11_find_133 : decode cX11_find 133 = .ok (.iand, 1) := by decide +kernel
theorem dX11_find_134 : decode cX11_find 134 = .ok (.iconst 1, 1) := by decide +kernel
theorem dX11_find_135 : decode cX11_find 135 = .ok (.if_icmp .ne 6, 3) := by decide +kernel
theorem dX11_find_138 : decode cX11_find 138 = .ok (.goto 138, 3) := by decide +kernel
theorem dX11_find_141 : decode cX11_find 141 = .ok (.ldc2_w 76, 3) := by decide +kernel
theorem dX11_find_144 : decode cX11_find 144 = .ok (.aload_n 0, 1) := by decide +kernel
theorem dX11_find_145 : decode cX11_find 145 = .ok (.getfield 9, 3) := by decide +kernel
theorem dX11_find_148 : decode cX11_find 148 = .ok (.iconst 1, 1) := by decide +kernel
theorem dX11_find_149 : decode cX11_find 149 = .ok (.iaload, 1) := by decide +kernel
theorem dX11_find_150 : decode cX11_find 150 = .ok (.i2l, 1) := by decide +kernel
theorem dX11_find_151 : decode cX11_find 151 = .ok (.lmul, 1) := by decide +kernel
theorem dX11_find_152 : decode cX11_find 152 = .ok (.lstore 6, 2) := by decide +kernel
theorem dX11_find_154 : decode cX11_find 154 = .ok (.ldc2_w 76, 3) := by decide +kernel
theorem dX11_find_157 : decode cX11_find 157 = .ok (.lstore 8, 2) := by decide +kernel
theorem dX11_find_159 : decode cX11_find 159 = .ok (.iconst 0, 1) := by decide +kernel
theorem dX11_find_160 : decode cX11_find 160 = .ok (.istore 10, 2) := by decide +kernel
theorem dX11_find_162 : decode cX11_find 162 = .ok (.iload 10, 2) := by decide +kernel
theorem dX11_find_164 : decode cX11_find 164 = .ok (.iload_n 2, 1) := by decide +kernel
theorem dX11_find_165 : decode cX11_find 165 = .ok (.if_icmp .ge 103, 3) := by decide +kernel
theorem dX11_find_168 : decode cX11_find 168 = .ok (.iload 10, 2) := by decide +kernel
theorem dX11_find_170 : decode cX11_find 170 = .ok (.iload_n 1, 1) := by decide +kernel
theorem dX11_find_171 : decode cX11_find 171 = .ok (.if_icmp .ne 6, 3) := by decide +kernel
theorem dX11_find_174 : decode cX11_find 174 = .ok (.goto 88, 3) := by decide +kernel
theorem dX11_find_177 : decode cX11_find 177 = .ok (.ldc2_w 76, 3) := by decide +kernel
theorem dX11_find_180 : decode cX11_find 180 = .ok (.aload_n 0, 1) := by decide +kernel
theorem dX11_find_181 : decode cX11_find 181 = .ok (.getfield 9, 3) := by decide +kernel
theorem dX11_find_184 : decode cX11_find 184 = .ok (.bipush 45, 2) := by decide +kernel
theorem dX11_find_186 : decode cX11_find 186 = .ok (.iload 10, 2) := by decide +kernel
theorem dX11_find_188 : decode cX11_find 188 = .ok (.iadd, 1) := by decide +kernel
theorem dX11_find_189 : decode cX11_find 189 = .ok (.iaload, 1) := by decide +kernel
theorem dX11_find_190 : decode cX11_find 190 = .ok (.i2l, 1) := by decide +kernel
theorem dX11_find_191 : decode cX11_find 191 = .ok (.ldiv, 1) := by decide +kernel
theorem dX11_find_192 : decode cX11_find 192 = .ok (.lstore 11, 2) := by decide +kernel
theorem dX11_find_194 : decode cX11_find 194 = .ok (.iload 5, 2) := by decide +kernel
theorem dX11_find_196 : decode cX11_find 196 = .ok (.iload 10, 2) := by decide +kernel
theorem dX11_find_198 : decode cX11_find 198 = .ok (.ishr, 1) := by decide +kernel
theorem dX11_find_199 : decode cX11_find 199 = .ok (.iconst 1, 1) := by decide +kernel
theorem dX11_find_200 : decode cX11_find 200 = .ok (.iand, 1) := by decide +kernel
theorem dX11_find_201 : decode cX11_find 201 = .ok (.iconst 1, 1) := by decide +kernel
theorem dX11_find_202 : decode cX11_find 202 = .ok (.if_icmp .ne 44, 3) := by decide +kernel
theorem dX11_find_205 : decode cX11_find 205 = .ok (.lload 6, 2) := by decide +kernel
theorem dX11_find_207 : decode cX11_find 207 = .ok (.lload 11, 2) := by decide +kernel
theorem dX11_find_209 : decode cX11_find 209 = .ok (.aload_n 0, 1) := by decide +kernel
theorem dX11_find_210 : decode cX11_find 210 = .ok (.getfield 9, 3) := by decide +kernel
theorem dX11_find_213 : decode cX11_find 213 = .ok (.bipush 35, 2) := by decide +kernel
theorem dX11_find_215 : decode cX11_find 215 = .ok (.iload 10, 2) := by decide +kernel
theorem dX11_find_217 : decode cX11_find 217 = .ok (.iadd, 1) := by decide +kernel
theorem dX11_find_218 : decode cX11_find 218 = .ok (.iaload, 1) := by decide +kernel
theorem dX11_find_219 : decode cX11_find 219 = .ok (.aload_n 0, 1) := by decide +kernel
theorem dX11_find_220 : decode cX11_find 220 = .ok (.getfield 9, 3) := by decide +kernel
theorem dX11_find_223 : decode cX11_find 223 = .ok (.bipush 35, 2) := by decide +kernel
theorem dX11_find_225 : decode cX11_find 225 = .ok (.iload_n 1, 1) := by decide +kernel
theorem dX11_find_226 : decode cX11_find 226 = .ok (.iadd, 1) := by decide +kernel
theorem dX11_find_227 : decode cX11_find 227 = .ok (.iaload, 1) := by decide +kernel
theorem dX11_find_228 : decode cX11_find 228 = .ok (.isub, 1) := by decide +kernel
theorem dX11_find_229 : decode cX11_find 229 = .ok (.i2l, 1) := by decide +kernel
theorem dX11_find_230 : decode cX11_find 230 = .ok (.lmul, 1) := by decide +kernel
theorem dX11_find_231 : decode cX11_find 231 = .ok (.lsub, 1) := by decide +kernel
theorem dX11_find_232 : decode cX11_find 232 = .ok (.lstore 6, 2) := by decide +kernel
theorem dX11_find_234 : decode cX11_find 234 = .ok (.lload 8, 2) := by decide +kernel
theorem dX11_find_236 : decode cX11_find 236 = .ok (.lload 11, 2) := by decide +kernel
theorem dX11_find_238 : decode cX11_find 238 = .ok (.lload_n 3, 1) := by decide +kernel
theorem dX11_find_239 : decode cX11_find 239 = .ok (.lmul, 1) := by decide +kernel
theorem dX11_find_240 : decode cX11_find 240 = .ok (.ladd, 1) := by decide +kernel
theorem dX11_find_241 : decode cX11_find 241 = .ok (.lstore 8, 2) := by decide +kernel
theorem dX11_find_243 : decode cX11_find 243 = .ok (.goto 19, 3) := by decide +kernel
theorem dX11_find_246 : decode cX11_find 246 = .ok (.lload 6, 2) := by decide +kernel
theorem dX11_find_248 : decode cX11_find 248 = .ok (.aload_n 0, 1) := by decide +kernel
theorem dX11_find_249 : decode cX11_find 249 = .ok (.getfield 9, 3) := by decide +kernel
theorem dX11_find_252 : decode cX11_find 252 = .ok (.bipush 55, 2) := by decide +kernel
theorem dX11_find_254 : decode cX11_find 254 = .ok (.iload 10, 2) := by decide +kernel
theorem dX11_find_256 : decode cX11_find 256 = .ok (.iadd, 1) := by decide +kernel
theorem dX11_find_257 : decode cX11_find 257 = .ok (.iaload, 1) := by decide +kernel
theorem dX11_find_258 : decode cX11_find 258 = .ok (.i2l, 1) := by decide +kernel
theorem dX11_find_259 : decode cX11_find 259 = .ok (.lsub, 1) := by decide +kernel
theorem dX11_find_260 : decode cX11_find 260 = .ok (.lstore 6, 2) := by decide +kernel
theorem dX11_find_262 : decode cX11_find 262 = .ok (.iinc 10 1, 3) := by decide +kernel
theorem dX11_find_265 : decode cX11_find 265 = .ok (.goto (-103), 3) := by decide +kernel
theorem dX11_find_268 : decode cX11_find 268 = .ok (.aload_n 0, 1) := by decide +kernel
theorem dX11_find_269 : decode cX11_find 269 = .ok (.lload 6, 2) := by decide +kernel
theorem dX11_find_271 : decode cX11_find 271 = .ok (.lload 8, 2) := by decide +kernel
theorem dX11_find_273 : decode cX11_find 273 = .ok (.invokevirtual 78, 3) := by decide +kernel
theorem dX11_find_276 : decode cX11_find 276 = .ok (.iinc 5 1, 3) := by decide +kernel
theorem dX11_find_279 : decode cX11_find 279 = .ok (.goto (-159), 3) := by decide +kernel
theorem dX11_find_282 : decode cX11_find 282 = .ok (.aload_n 0, 1) := by decide +kernel
theorem dX11_find_283 : decode cX11_find 283 = .ok (.getfield 73, 3) := by decide +kernel
theorem dX11_find_286 : decode cX11_find 286 = .ok (.ldc2_w 76, 3) := by decide +kernel
theorem dX11_find_289 : decode cX11_find 289 = .ok (.lmul, 1) := by decide +kernel
theorem dX11_find_290 : decode cX11_find 290 = .ok (.aload_n 0, 1) := by decide +kernel
theorem dX11_find_291 : decode cX11_find 291 = .ok (.getfield 9, 3) := by decide +kernel
theorem dX11_find_294 : decode cX11_find 294 = .ok (.bipush 55, 2) := by decide +kernel
theorem dX11_find_296 : decode cX11_find 296 = .ok (.iload_n 1, 1) := by decide +kernel
theorem dX11_find_297 : decode cX11_find 297 = .ok (.iadd, 1) := by decide +kernel
theorem dX11_find_298 : decode cX11_find 298 = .ok (.iaload, 1) := by decide +kernel
theorem dX11_find_299 : decode cX11_find 299 = .ok (.i2l, 1) := by decide +kernel
theorem dX11_find_300 : decode cX11_find 300 = .ok (.aload_n 0, 1) := by decide +kernel
theorem dX11_find_301 : decode cX11_find 301 = .ok (.getfield 69, 3) := by decide +kernel
theorem dX11_find_304 : decode cX11_find 304 = .ok (.lmul, 1) := by decide +kernel
theorem dX11_find_305 : decode cX11_find 305 = .ok (.lcmp, 1) := by decide +kernel
theorem dX11_find_306 : decode cX11_find 306 = .ok (.ifCond .lt 7, 3) := by decide +kernel
theorem dX11_find_309 : decode cX11_find 309 = .ok (.iconst 1, 1) := by decide +kernel
theorem dX11_find_310 : decode cX11_find 310 = .ok (.goto 4, 3) := by decide +kernel
theorem dX11_find_313 : decode cX11_find 313 = .ok (.iconst 0, 1) := by decide +kernel
theorem dX11_find_314 : decode cX11_find 314 = .ok (.ireturn, 1) := by decide +kernel
set_option maxRecDepth 20000 in
theorem ggX11_findBest_X11_find : GoodIn wsX11_findBest wsX11_find := goodIn_r _ [11, 2, 4, 12, 3, 13, 14, 15, 10, 16, 31, 32, 33, 34, 35, 36, 37, 38, 39, 40, 41, 42, 43, 44, 45, 46, 47, 48, 49] (by decide +kernel) (by decide +kernel)
set_option maxRecDepth 20000 in
theorem gX11_findBest_X11_find : GoodIn wsX11_findBest (wsV RX11 85 RX11 yX11_find wsX11_find) := goodIn_app (goodIn_of _ (by decide +kernel)) ggX11_findBest_X11_find
set_option maxRecDepth 20000 in
theorem ggX11_findBest_X11_shares : GoodIn wsX11_findBest wsX11_shares := goodIn_r _ [20, 12, 6, 21, 2, 22, 1, 5, 23, 24, 25, 26, 27, 28, 29, 10, 30, 31, 32, 33, 34, 35, 36, 37, 38, 39, 40, 41, 42, 43, 44, 45, 46, 47, 48, 49] (by decide +kernel) (by decide +kernel)
set_option maxRecDepth 20000 in
theorem gX11_findBest_X11_shares : GoodIn wsX11_findBest (wsV RX11 94 RX11 yX11_shares wsX11_shares) := goodIn_app (goodIn_of _ (by decide +kernel)) ggX11_findBest_X11_shares
theorem dX11_findBest_0 : decode cX11_findBest 0 = .ok (.aload_n 0, 1) := by decide +kernel
theorem dX11_findBest_1 : decode cX11_findBest 1 = .ok (.iconst (-1), 1) := by decide +kernel
theorem dX11_findBest_2 : decode cX11_findBest 2 = .ok (.putfield 82, 3) := by decide +kernel
theorem dX11_findBest_5 : decode cX11_findBest 5 = .ok (.lconst 0, 1) := by decide +kernel
theorem dX11_findBest_6 : decode cX11_findBest 6 = .ok (.lstore_n 1, 1) := by decide +kernel
theorem dX11_findBest_7 : decode cX11_findBest 7 = .ok (.lconst 1, 1) := by decide +kernel
theorem dX11_findBest_8 : decode cX11_findBest 8 = .ok (.lstore_n 3, 1) := by decide +kernel
theorem dX11_findBest_9 : decode cX11_findBest 9 = .ok (.iconst 0, 1) := by decide +kernel
theorem dX11_findBest_10 : decode cX11_findBest 10 = .ok (.istore 5, 2) := by decide +kernel
theorem dX11_findBest_12 : decode cX11_findBest 12 = .ok (.iload 5, 2) := by decide +kernel
theorem dX11_findBest_14 : decode cX11_findBest 14 = .ok (.aload_n 0, 1) := by decide +kernel
theorem dX11_findBest_15 : decode cX11_findBest 15 = .ok (.getfield 9, 3) := by decide +kernel
theorem dX11_findBest_18 : decode cX11_findBest 18 = .ok (.iconst 0, 1) := by decide +kernel
theorem dX11_findBest_19 : decode cX11_findBest 19 = .ok (.iaload, 1) := by decide +kernel
theorem dX11_findBest_20 : decode cX11_findBest 20 = .ok (.if_icmp .ge 118, 3) := by decide +kernel
theorem dX11_findBest_23 : decode cX11_findBest 23 = .ok (.aload_n 0, 1) := by decide +kernel
theorem dX11_findBest_24 : decode cX11_findBest 24 = .ok (.iload 5, 2) := by decide +kernel
theorem dX11_findBest_26 : decode cX11_findBest 26 = .ok (.invokevirtual 85, 3) := by decide +kernel
theorem dX11_findBest_29 : decode cX11_findBest 29 = .ok (.ifCond .ne 6, 3) := by decide +kernel
theorem dX11_findBest_32 : decode cX11_findBest 32 = .ok (.goto 100, 3) := by decide +kernel
theorem dX11_findBest_35 : decode cX11_findBest 35 = .ok (.aload_n 0, 1) := by decide +kernel
theorem dX11_findBest_36 : decode cX11_findBest 36 = .ok (.getfield 9, 3) := by decide +kernel
theorem dX11_findBest_39 : decode cX11_findBest 39 = .ok (.bipush 25, 2) := by decide +kernel
theorem dX11_findBest_41 : decode cX11_findBest 41 = .ok (.iload 5, 2) := by decide +kernel
theorem dX11_findBest_43 : decode cX11_findBest 43 = .ok (.iadd, 1) := by decide +kernel
theorem dX11_findBest_44 : decode cX11_findBest 44 = .ok (.iaload, 1) := by decide +kernel
theorem dX11_findBest_45 : decode cX11_findBest 45 = .ok (.i2l, 1) := by decide +kernel
theorem dX11_findBest_46 : decode cX11_findBest 46 = .ok (.aload_n 0, 1) := by decide +kernel
theorem dX11_findBest_47 : decode cX11_findBest 47 = .ok (.getfield 69, 3) := by decide +kernel
theorem dX11_findBest_50 : decode cX11_findBest 50 = .ok (.lmul, 1) := by decide +kernel
theorem dX11_findBest_51 : decode cX11_findBest 51 = .ok (.aload_n 0, 1) := by decide +kernel
theorem dX11_findBest_52 : decode cX11_findBest 52 = .ok (.getfield 9, 3) := by decide +kernel
theorem dX11_findBest_55 : decode cX11_findBest 55 = .ok (.bipush 15, 2) := by decide +kernel
theorem dX11_findBest_57 : decode cX11_findBest 57 = .ok (.iload 5, 2) := by decide +kernel
theorem dX11_findBest_59 : decode cX11_findBest 59 = .ok (.iadd, 1) := by decide +kernel
theorem dX11_findBest_60 : decode cX11_findBest 60 = .ok (.iaload, 1) := by decide +kernel
theorem dX11_findBest_61 : decode cX11_findBest 61 = .ok (.aload_n 0, 1) := by decide +kernel
theorem dX11_findBest_62 : decode cX11_findBest 62 = .ok (.getfield 9, 3) := by decide +kernel
theorem dX11_findBest_65 : decode cX11_findBest 65 = .ok (.bipush 25, 2) := by decide +kernel
theorem dX11_findBest_67 : decode cX11_findBest 67 = .ok (.iload 5, 2) := by decide +kernel
theorem dX11_findBest_69 : decode cX11_findBest 69 = .ok (.iadd, 1) := by decide +kernel
theorem dX11_findBest_70 : decode cX11_findBest 70 = .ok (.iaload, 1) := by decide +kernel
theorem dX11_findBest_71 : decode cX11_findBest 71 = .ok (.isub, 1) := by decide +kernel
theorem dX11_findBest_72 : decode cX11_findBest 72 = .ok (.i2l, 1) := by decide +kernel
theorem dX11_findBest_73 : decode cX11_findBest 73 = .ok (.aload_n 0, 1) := by decide +kernel
theorem dX11_findBest_74 : decode cX11_findBest 74 = .ok (.getfield 73, 3) := by decide +kernel
theorem dX11_findBest_77 : decode cX11_findBest 77 = .ok (.lmul, 1) := by decide +kernel
theorem dX11_findBest_78 : decode cX11_findBest 78 = .ok (.ladd, 1) := by decide +kernel
theorem dX11_findBest_79 : decode cX11_findBest 79 = .ok (.lstore 6, 2) := by decide +kernel
theorem dX11_findBest_81 : decode cX11_findBest 81 = .ok (.aload_n 0, 1) := by decide +kernel
theorem dX11_findBest_82 : decode cX11_findBest 82 = .ok (.getfield 82, 3) := by decide +kernel
theorem dX11_findBest_85 : decode cX11_findBest 85 = .ok (.ifCond .lt 17, 3) := by decide +kernel
theorem dX11_findBest_88 : decode cX11_findBest 88 = .ok (.lload 6, 2) := by decide +kernel
theorem dX11_findBest_90 : decode cX11_findBest 90 = .ok (.lload_n 3, 1) := by decide +kernel
theorem dX11_findBest_91 : decode cX11_findBest 91 = .ok (.lmul, 1) := by decide +kernel
theorem dX11_findBest_92 : decode cX11_findBest 92 = .ok (.lload_n 1, 1) := by decide +kernel
theorem dX11_findBest_93 : decode cX11_findBest 93 = .ok (.aload_n 0, 1) := by decide +kernel
theorem dX11_findBest_94 : decode cX11_findBest 94 = .ok (.getfield 69, 3) := by decide +kernel
theorem dX11_findBest_97 : decode cX11_findBest 97 = .ok (.lmul, 1) := by decide +kernel
theorem dX11_findBest_98 : decode cX11_findBest 98 = .ok (.lcmp, 1) := by decide +kernel
theorem dX11_findBest_99 : decode cX11_findBest 99 = .ok (.ifCond .le 33, 3) := by decide +kernel
theorem dX11_findBest_102 : decode cX11_findBest 102 = .ok (.aload_n 0, 1) := by decide +kernel
theorem dX11_findBest_103 : decode cX11_findBest 103 = .ok (.iload 5, 2) := by decide +kernel
theorem dX11_findBest_105 : decode cX11_findBest 105 = .ok (.putfield 82, 3) := by decide +kernel
theorem dX11_findBest_108 : decode cX11_findBest 108 = .ok (.lload 6, 2) := by decide +kernel
theorem dX11_findBest_110 : decode cX11_findBest 110 = .ok (.lstore_n 1, 1) := by decide +kernel
theorem dX11_findBest_111 : decode cX11_findBest 111 = .ok (.aload_n 0, 1) := by decide +kernel
theorem dX11_findBest_112 : decode cX11_findBest 112 = .ok (.getfield 69, 3) := by decide +kernel
theorem dX11_findBest_115 : decode cX11_findBest 115 = .ok (.lstore_n 3, 1) := by decide +kernel
theorem dX11_findBest_116 : decode cX11_findBest 116 = .ok (.aload_n 0, 1) := by decide +kernel
theorem dX11_findBest_117 : decode cX11_findBest 117 = .ok (.aload_n 0, 1) := by decide +kernel
theorem dX11_findBest_118 : decode cX11_findBest 118 = .ok (.getfield 73, 3) := by decide +kernel
theorem dX11_findBest_121 : decode cX11_findBest 121 = .ok (.putfield 88, 3) := by decide +kernel
theorem dX11_findBest_124 : decode cX11_findBest 124 = .ok (.aload_n 0, 1) := by decide +kernel
theorem dX11_findBest_125 : decode cX11_findBest 125 = .ok (.aload_n 0, 1) := by decide +kernel
theorem dX11_findBest_126 : decode cX11_findBest 126 = .ok (.getfield 69, 3) := by decide +kernel
theorem dX11_findBest_129 : decode cX11_findBest 129 = .ok (.putfield 91, 3) := by decide +kernel
theorem dX11_findBest_132 : decode cX11_findBest 132 = .ok (.iinc 5 1, 3) := by decide +kernel
theorem dX11_findBest_135 : decode cX11_findBest 135 = .ok (.goto (-123), 3) := by decide +kernel
theorem dX11_findBest_138 : decode cX11_findBest 138 = .ok (.aload_n 0, 1) := by decide +kernel
theorem dX11_findBest_139 : decode cX11_findBest 139 = .ok (.getfield 82, 3) := by decide +kernel
theorem dX11_findBest_142 : decode cX11_findBest 142 = .ok (.ifCond .lt 7, 3) := by decide +kernel
theorem dX11_findBest_145 : decode cX11_findBest 145 = .ok (.aload_n 0, 1) := by decide +kernel
theorem dX11_findBest_146 : decode cX11_findBest 146 = .ok (.invokevirtual 94, 3) := by decide +kernel
theorem dX11_findBest_149 : decode cX11_findBest 149 = .ok (.aload_n 0, 1) := by decide +kernel
theorem dX11_findBest_150 : decode cX11_findBest 150 = .ok (.getfield 82, 3) := by decide +kernel
theorem dX11_findBest_153 : decode cX11_findBest 153 = .ok (.ifCond .lt 7, 3) := by decide +kernel
theorem dX11_findBest_156 : decode cX11_findBest 156 = .ok (.iconst 1, 1) := by decide +kernel
theorem dX11_findBest_157 : decode cX11_findBest 157 = .ok (.goto 4, 3) := by decide +kernel
theorem dX11_findBest_160 : decode cX11_findBest 160 = .ok (.iconst 0, 1) := by decide +kernel
theorem dX11_findBest_161 : decode cX11_findBest 161 = .ok (.ireturn, 1) := by decide +kernel
theorem dX11_prizeTimesLow_0 : decode cX11_prizeTimesLow 0 = .ok (.aload_n 0, 1) := by decide +kernel
theorem dX11_prizeTimesLow_1 : decode cX11_prizeTimesLow 1 = .ok (.getfield 9, 3) := by decide +kernel
theorem dX11_prizeTimesLow_4 : decode cX11_prizeTimesLow 4 = .ok (.bipush 35, 2) := by decide +kernel
theorem dX11_prizeTimesLow_6 : decode cX11_prizeTimesLow 6 = .ok (.aload_n 0, 1) := by decide +kernel
theorem dX11_prizeTimesLow_7 : decode cX11_prizeTimesLow 7 = .ok (.getfield 82, 3) := by decide +kernel
theorem dX11_prizeTimesLow_10 : decode cX11_prizeTimesLow 10 = .ok (.iadd, 1) := by decide +kernel
theorem dX11_prizeTimesLow_11 : decode cX11_prizeTimesLow 11 = .ok (.iaload, 1) := by decide +kernel
theorem dX11_prizeTimesLow_12 : decode cX11_prizeTimesLow 12 = .ok (.i2l, 1) := by decide +kernel
theorem dX11_prizeTimesLow_13 : decode cX11_prizeTimesLow 13 = .ok (.aload_n 0, 1) := by decide +kernel
theorem dX11_prizeTimesLow_14 : decode cX11_prizeTimesLow 14 = .ok (.getfield 91, 3) := by decide +kernel
theorem dX11_prizeTimesLow_17 : decode cX11_prizeTimesLow 17 = .ok (.lmul, 1) := by decide +kernel
theorem dX11_prizeTimesLow_18 : decode cX11_prizeTimesLow 18 = .ok (.aload_n 0, 1) := by decide +kernel
theorem dX11_prizeTimesLow_19 : decode cX11_prizeTimesLow 19 = .ok (.getfield 9, 3) := by decide +kernel
theorem dX11_prizeTimesLow_22 : decode cX11_prizeTimesLow 22 = .ok (.bipush 45, 2) := by decide +kernel
theorem dX11_prizeTimesLow_24 : decode cX11_prizeTimesLow 24 = .ok (.aload_n 0, 1) := by decide +kernel
theorem dX11_prizeTimesLow_25 : decode cX11_prizeTimesLow 25 = .ok (.getfield 82, 3) := by decide +kernel
theorem dX11_prizeTimesLow_28 : decode cX11_prizeTimesLow 28 = .ok (.iadd, 1) := by decide +kernel
theorem dX11_prizeTimesLow_29 : decode cX11_prizeTimesLow 29 = .ok (.iaload, 1) := by decide +kernel
theorem dX11_prizeTimesLow_30 : decode cX11_prizeTimesLow 30 = .ok (.i2l, 1) := by decide +kernel
theorem dX11_prizeTimesLow_31 : decode cX11_prizeTimesLow 31 = .ok (.aload_n 0, 1) := by decide +kernel
theorem dX11_prizeTimesLow_32 : decode cX11_prizeTimesLow 32 = .ok (.getfield 88, 3) := by decide +kernel
theorem dX11_prizeTimesLow_35 : decode cX11_prizeTimesLow 35 = .ok (.lmul, 1) := by decide +kernel
theorem dX11_prizeTimesLow_36 : decode cX11_prizeTimesLow 36 = .ok (.lsub, 1) := by decide +kernel
theorem dX11_prizeTimesLow_37 : decode cX11_prizeTimesLow 37 = .ok (.lreturn, 1) := by decide +kernel
set_option maxRecDepth 20000 in
theorem ggX11_shares_X11_prizeTimesLow : GoodIn wsX11_shares wsX11_prizeTimesLow := goodIn_r _ [16, 4, 6, 2, 7, 17, 18, 19, 20, 21, 22, 23, 24, 25, 26, 27, 28, 29, 30, 31, 32, 33, 34, 35] (by decide +kernel) (by decide +kernel)
set_option maxRecDepth 20000 in
theorem gX11_shares_X11_prizeTimesLow : GoodIn wsX11_shares (wsV RX11 100 RX11 yX11_prizeTimesLow wsX11_prizeTimesLow) := goodIn_app (goodIn_of _ (by decide +kernel)) ggX11_shares_X11_prizeTimesLow
theorem dX11_shares_0 : decode cX11_shares 0 = .ok (.aload_n 0, 1) := by decide +kernel
theorem dX11_shares_1 : decode cX11_shares 1 = .ok (.ldc2_w 76, 3) := by decide +kernel
theorem dX11_shares_4 : decode cX11_shares 4 = .ok (.aload_n 0, 1) := by decide +kernel
theorem dX11_shares_5 : decode cX11_shares 5 = .ok (.getfield 91, 3) := by decide +kernel
theorem dX11_shares_8 : decode cX11_shares 8 = .ok (.lmul, 1) := by decide +kernel
theorem dX11_shares_9 : decode cX11_shares 9 = .ok (.putfield 97, 3) := by decide +kernel
theorem dX11_shares_12 : decode cX11_shares 12 = .ok (.iconst 0, 1) := by decide +kernel
theorem dX11_shares_13 : decode cX11_shares 13 = .ok (.istore_n 1, 1) := by decide +kernel
theorem dX11_shares_14 : decode cX11_shares 14 = .ok (.iload_n 1, 1) := by decide +kernel
theorem dX11_shares_15 : decode cX11_shares 15 = .ok (.aload_n 0, 1) := by decide +kernel
theorem dX11_shares_16 : decode cX11_shares 16 = .ok (.getfield 9, 3) := by decide +kernel
theorem dX11_shares_19 : decode cX11_shares 19 = .ok (.iconst 0, 1) := by decide +kernel
theorem dX11_shares_20 : decode cX11_shares 20 = .ok (.iaload, 1) := by decide +kernel
theorem dX11_shares_21 : decode cX11_shares 21 = .ok (.if_icmp .ge 93, 3) := by decide +kernel
theorem dX11_shares_24 : decode cX11_shares 24 = .ok (.aload_n 0, 1) := by decide +kernel
theorem dX11_shares_25 : decode cX11_shares 25 = .ok (.getfield 9, 3) := by decide +kernel
theorem dX11_shares_28 : decode cX11_shares 28 = .ok (.bipush 55, 2) := by decide +kernel
theorem dX11_shares_30 : decode cX11_shares 30 = .ok (.iload_n 1, 1) := by decide +kernel
theorem dX11_shares_31 : decode cX11_shares 31 = .ok (.iadd, 1) := by decide +kernel
theorem dX11_shares_32 : decode cX11_shares 32 = .ok (.iaload, 1) := by decide +kernel
theorem dX11_shares_33 : decode cX11_shares 33 = .ok (.i2l, 1) := by decide +kernel
theorem dX11_shares_34 : decode cX11_shares 34 = .ok (.aload_n 0, 1) := by decide +kernel
theorem dX11_shares_35 : decode cX11_shares 35 = .ok (.getfield 91, 3) := by decide +kernel
theorem dX11_shares_38 : decode cX11_shares 38 = .ok (.lmul, 1) := by decide +kernel
theorem dX11_shares_39 : decode cX11_shares 39 = .ok (.lstore_n 2, 1) := by decide +kernel
theorem dX11_shares_40 : decode cX11_shares 40 = .ok (.ldc2_w 76, 3) := by decide +kernel
theorem dX11_shares_43 : decode cX11_shares 43 = .ok (.aload_n 0, 1) := by decide +kernel
theorem dX11_shares_44 : decode cX11_shares 44 = .ok (.getfield 9, 3) := by decide +kernel
theorem dX11_shares_47 : decode cX11_shares 47 = .ok (.bipush 45, 2) := by decide +kernel
theorem dX11_shares_49 : decode cX11_shares 49 = .ok (.iload_n 1, 1) := by decide +kernel
theorem dX11_shares_50 : decode cX11_shares 50 = .ok (.iadd, 1) := by decide +kernel
theorem dX11_shares_51 : decode cX11_shares 51 = .ok (.iaload, 1) := by decide +kernel
theorem dX11_shares_52 : decode cX11_shares 52 = .ok (.i2l, 1) := by decide +kernel
theorem dX11_shares_53 : decode cX11_shares 53 = .ok (.ldiv, 1) := by decide +kernel
theorem dX11_shares_54 : decode cX11_shares 54 = .ok (.aload_n 0, 1) := by decide +kernel
theorem dX11_shares_55 : decode cX11_shares 55 = .ok (.getfield 9, 3) := by decide +kernel
theorem dX11_shares_58 : decode cX11_shares 58 = .ok (.bipush 35, 2) := by decide +kernel
theorem dX11_shares_60 : decode cX11_shares 60 = .ok (.iload_n 1, 1) := by decide +kernel
theorem dX11_shares_61 : decode cX11_shares 61 = .ok (.iadd, 1) := by decide +kernel
theorem dX11_shares_62 : decode cX11_shares 62 = .ok (.iaload, 1) := by decide +kernel
theorem dX11_shares_63 : decode cX11_shares 63 = .ok (.i2l, 1) := by decide +kernel
theorem dX11_shares_64 : decode cX11_shares 64 = .ok (.aload_n 0, 1) := by decide +kernel
theorem dX11_shares_65 : decode cX11_shares 65 = .ok (.getfield 91, 3) := by decide +kernel
theorem dX11_shares_68 : decode cX11_shares 68 = .ok (.lmul, 1) := by decide +kernel
theorem dX11_shares_69 : decode cX11_shares 69 = .ok (.aload_n 0, 1) := by decide +kernel
theorem dX11_shares_70 : decode cX11_shares 70 = .ok (.invokevirtual 100, 3) := by decide +kernel
theorem dX11_shares_73 : decode cX11_shares 73 = .ok (.lsub, 1) := by decide +kernel
theorem dX11_shares_74 : decode cX11_shares 74 = .ok (.lmul, 1) := by decide +kernel
theorem dX11_shares_75 : decode cX11_shares 75 = .ok (.lstore 4, 2) := by decide +kernel
theorem dX11_shares_77 : decode cX11_shares 77 = .ok (.aload_n 0, 1) := by decide +kernel
theorem dX11_shares_78 : decode cX11_shares 78 = .ok (.getfield 29, 3) := by decide +kernel
theorem dX11_shares_81 : decode cX11_shares 81 = .ok (.iload_n 1, 1) := by decide +kernel
theorem dX11_shares_82 : decode cX11_shares 82 = .ok (.iload_n 1, 1) := by decide +kernel
theorem dX11_shares_83 : decode cX11_shares 83 = .ok (.aload_n 0, 1) := by decide +kernel
theorem dX11_shares_84 : decode cX11_shares 84 = .ok (.getfield 82, 3) := by decide +kernel
theorem dX11_shares_87 : decode cX11_shares 87 = .ok (.if_icmp .ne 14, 3) := by decide +kernel
theorem dX11_shares_90 : decode cX11_shares 90 = .ok (.ldc2_w 76, 3) := by decide +kernel
theorem dX11_shares_93 : decode cX11_shares 93 = .ok (.aload_n 0, 1) := by decide +kernel
theorem dX11_shares_94 : decode cX11_shares 94 = .ok (.getfield 88, 3) := by decide +kernel
theorem dX11_shares_97 : decode cX11_shares 97 = .ok (.lmul, 1) := by decide +kernel
theorem dX11_shares_98 : decode cX11_shares 98 = .ok (.goto 9, 3) := by decide +kernel
theorem dX11_shares_101 : decode cX11_shares 101 = .ok (.lload_n 2, 1) := by decide +kernel
theorem dX11_shares_102 : decode cX11_shares 102 = .ok (.lload 4, 2) := by decide +kernel
theorem dX11_shares_104 : decode cX11_shares 104 = .ok (.invokestatic 104, 3) := by decide +kernel
theorem dX11_shares_107 : decode cX11_shares 107 = .ok (.lastore, 1) := by decide +kernel
theorem dX11_shares_108 : decode cX11_shares 108 = .ok (.iinc 1 1, 3) := by decide +kernel
theorem dX11_shares_111 : decode cX11_shares 111 = .ok (.goto (-97), 3) := by decide +kernel
theorem dX11_shares_114 : decode cX11_shares 114 = .ok (.return_, 1) := by decide +kernel
set_option maxRecDepth 20000 in
theorem ggX11_best_X11_findBest : GoodIn wsX11_best wsX11_findBest := goodIn_r _ [7, 1, 8, 9, 10, 11, 12, 13, 14, 15, 6, 16, 17, 18, 19, 20, 21, 22, 23, 24, 25, 26, 27, 28, 29, 30, 31, 32, 33, 34, 35, 36, 37, 38, 39, 40, 41, 42, 43, 44, 45, 46, 47, 48, 49, 50, 51, 52, 53, 54] (by decide +kernel) (by decide +kernel)
set_option maxRecDepth 20000 in
theorem gX11_best_X11_findBest : GoodIn wsX11_best (wsV RX11 109 RX11 yX11_findBest wsX11_findBest) := goodIn_app (goodIn_of _ (by decide +kernel)) ggX11_best_X11_findBest
theorem dX11_best_0 : decode cX11_best 0 = .ok (.aload_n 0, 1) := by decide +kernel
theorem dX11_best_1 : decode cX11_best 1 = .ok (.invokevirtual 109, 3) := by decide +kernel
theorem dX11_best_4 : decode cX11_best 4 = .ok (.ifCond .eq 10, 3) := by decide +kernel
theorem dX11_best_7 : decode cX11_best 7 = .ok (.aload_n 0, 1) := by decide +kernel
theorem dX11_best_8 : decode cX11_best 8 = .ok (.getfield 82, 3) := by decide +kernel
theorem dX11_best_11 : decode cX11_best 11 = .ok (.goto 5, 3) := by decide +kernel
theorem dX11_best_14 : decode cX11_best 14 = .ok (.ldc 113, 2) := by decide +kernel
theorem dX11_best_16 : decode cX11_best 16 = .ok (.ireturn, 1) := by decide +kernel
set_option maxRecDepth 20000 in
theorem ggX11_worth_X11_findBest : GoodIn wsX11_worth wsX11_findBest := goodIn_r _ [10, 2, 3, 11, 12, 5, 4, 13, 14, 15, 9, 16, 17, 18, 19, 20, 21, 22, 23, 24, 25, 26, 27, 28, 29, 30, 31, 32, 33, 34, 35, 44, 45, 46, 47, 48, 49, 50, 51, 52, 53, 54, 55, 56, 57, 58, 59, 60, 61, 62] (by decide +kernel) (by decide +kernel)
set_option maxRecDepth 20000 in
theorem gX11_worth_X11_findBest : GoodIn wsX11_worth (wsV RX11 109 RX11 yX11_findBest wsX11_findBest) := goodIn_app (goodIn_of _ (by decide +kernel)) ggX11_worth_X11_findBest
set_option maxRecDepth 20000 in
theorem ggX11_worth_X11_fraction : GoodIn wsX11_worth wsX11_fraction := goodIn_r _ [39, 40, 41, 42, 9, 43, 44, 45, 46, 47, 48, 49, 50, 51, 52, 53, 54, 55, 56, 57, 58, 59, 60, 61, 62] (by decide +kernel) (by decide +kernel)
set_option maxRecDepth 20000 in
theorem gX11_worth_X11_fraction : GoodIn wsX11_worth (wsV RX11 114 RX11 yX11_fraction wsX11_fraction) := goodIn_app (goodIn_of _ (by decide +kernel)) ggX11_worth_X11_fraction
theorem dX11_worth_0 : decode cX11_worth 0 = .ok (.aload_n 0, 1) := by decide +kernel
theorem dX11_worth_1 : decode cX11_worth 1 = .ok (.invokevirtual 109, 3) := by decide +kernel
theorem dX11_worth_4 : decode cX11_worth 4 = .ok (.ifCond .ne 6, 3) := by decide +kernel
theorem dX11_worth_7 : decode cX11_worth 7 = .ok (.ldc 113, 2) := by decide +kernel
theorem dX11_worth_9 : decode cX11_worth 9 = .ok (.ireturn, 1) := by decide +kernel
theorem dX11_worth_10 : decode cX11_worth 10 = .ok (.aload_n 0, 1) := by decide +kernel
theorem dX11_worth_11 : decode cX11_worth 11 = .ok (.getfield 82, 3) := by decide +kernel
theorem dX11_worth_14 : decode cX11_worth 14 = .ok (.istore_n 1, 1) := by decide +kernel
theorem dX11_worth_15 : decode cX11_worth 15 = .ok (.aload_n 0, 1) := by decide +kernel
theorem dX11_worth_16 : decode cX11_worth 16 = .ok (.aload_n 0, 1) := by decide +kernel
theorem dX11_worth_17 : decode cX11_worth 17 = .ok (.getfield 9, 3) := by decide +kernel
theorem dX11_worth_20 : decode cX11_worth 20 = .ok (.bipush 25, 2) := by decide +kernel
theorem dX11_worth_22 : decode cX11_worth 22 = .ok (.iload_n 1, 1) := by decide +kernel
theorem dX11_worth_23 : decode cX11_worth 23 = .ok (.iadd, 1) := by decide +kernel
theorem dX11_worth_24 : decode cX11_worth 24 = .ok (.iaload, 1) := by decide +kernel
theorem dX11_worth_25 : decode cX11_worth 25 = .ok (.i2l, 1) := by decide +kernel
theorem dX11_worth_26 : decode cX11_worth 26 = .ok (.aload_n 0, 1) := by decide +kernel
theorem dX11_worth_27 : decode cX11_worth 27 = .ok (.getfield 91, 3) := by decide +kernel
theorem dX11_worth_30 : decode cX11_worth 30 = .ok (.lmul, 1) := by decide +kernel
theorem dX11_worth_31 : decode cX11_worth 31 = .ok (.aload_n 0, 1) := by decide +kernel
theorem dX11_worth_32 : decode cX11_worth 32 = .ok (.getfield 9, 3) := by decide +kernel
theorem dX11_worth_35 : decode cX11_worth 35 = .ok (.bipush 15, 2) := by decide +kernel
theorem dX11_worth_37 : decode cX11_worth 37 = .ok (.iload_n 1, 1) := by decide +kernel
theorem dX11_worth_38 : decode cX11_worth 38 = .ok (.iadd, 1) := by decide +kernel
theorem dX11_worth_39 : decode cX11_worth 39 = .ok (.iaload, 1) := by decide +kernel
theorem dX11_worth_40 : decode cX11_worth 40 = .ok (.aload_n 0, 1) := by decide +kernel
theorem dX11_worth_41 : decode cX11_worth 41 = .ok (.getfield 9, 3) := by decide +kernel
theorem dX11_worth_44 : decode cX11_worth 44 = .ok (.bipush 25, 2) := by decide +kernel
theorem dX11_worth_46 : decode cX11_worth 46 = .ok (.iload_n 1, 1) := by decide +kernel
theorem dX11_worth_47 : decode cX11_worth 47 = .ok (.iadd, 1) := by decide +kernel
theorem dX11_worth_48 : decode cX11_worth 48 = .ok (.iaload, 1) := by decide +kernel
theorem dX11_worth_49 : decode cX11_worth 49 = .ok (.isub, 1) := by decide +kernel
theorem dX11_worth_50 : decode cX11_worth 50 = .ok (.i2l, 1) := by decide +kernel
theorem dX11_worth_51 : decode cX11_worth 51 = .ok (.aload_n 0, 1) := by decide +kernel
theorem dX11_worth_52 : decode cX11_worth 52 = .ok (.getfield 88, 3) := by decide +kernel
theorem dX11_worth_55 : decode cX11_worth 55 = .ok (.lmul, 1) := by decide +kernel
theorem dX11_worth_56 : decode cX11_worth 56 = .ok (.ladd, 1) := by decide +kernel
theorem dX11_worth_57 : decode cX11_worth 57 = .ok (.aload_n 0, 1) := by decide +kernel
