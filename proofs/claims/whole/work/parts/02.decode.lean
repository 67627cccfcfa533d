theorem dX0_init_0 : decode cX0_init 0 = .ok (.aload_n 0, 1) := by decide +kernel
theorem dX0_init_1 : decode cX0_init 1 = .ok (.invokespecial 3, 3) := by decide +kernel
theorem dX0_init_4 : decode cX0_init 4 = .ok (.return_, 1) := by decide +kernel
set_option maxRecDepth 20000 in
theorem ggX0_find_X0_search : GoodIn wsX0_find wsX0_search := goodIn_r _ [9, 1, 2, 10, 11, 12, 13, 14, 15, 16, 17, 18, 19, 20, 21, 22, 23, 24, 25, 26, 27, 28, 29, 30, 31, 32, 33, 34, 8, 35, 3, 4, 36, 37, 38, 39, 40, 41, 42, 43, 44, 45, 46, 5, 6, 7, 47, 48, 49, 50, 51, 52, 53, 54, 55, 56, 57] (by decide +kernel) (by decide +kernel)
set_option maxRecDepth 20000 in
theorem gX0_find_X0_search : GoodIn wsX0_find (wsV RX0 24 RX0 yX0_search wsX0_search) := goodIn_app (goodIn_of _ (by decide +kernel)) ggX0_find_X0_search
theorem dX0_find_0 : decode cX0_find 0 = .ok (.aload_n 0, 1) := by decide +kernel
theorem dX0_find_1 : decode cX0_find 1 = .ok (.iload_n 2, 1) := by decide +kernel
theorem dX0_find_2 : decode cX0_find 2 = .ok (.putfield 9, 3) := by decide +kernel
theorem dX0_find_5 : decode cX0_find 5 = .ok (.aload_n 0, 1) := by decide +kernel
theorem dX0_find_6 : decode cX0_find 6 = .ok (.iload_n 3, 1) := by decide +kernel
theorem dX0_find_7 : decode cX0_find 7 = .ok (.putfield 15, 3) := by decide +kernel
theorem dX0_find_10 : decode cX0_find 10 = .ok (.aload_n 0, 1) := by decide +kernel
theorem dX0_find_11 : decode cX0_find 11 = .ok (.iconst 0, 1) := by decide +kernel
theorem dX0_find_12 : decode cX0_find 12 = .ok (.putfield 18, 3) := by decide +kernel
theorem dX0_find_15 : decode cX0_find 15 = .ok (.aload_n 0, 1) := by decide +kernel
theorem dX0_find_16 : decode cX0_find 16 = .ok (.iconst (-1), 1) := by decide +kernel
theorem dX0_find_17 : decode cX0_find 17 = .ok (.putfield 21, 3) := by decide +kernel
theorem dX0_find_20 : decode cX0_find 20 = .ok (.aload_n 0, 1) := by decide +kernel
theorem dX0_find_21 : decode cX0_find 21 = .ok (.aload_n 1, 1) := by decide +kernel
theorem dX0_find_22 : decode cX0_find 22 = .ok (.iconst 0, 1) := by decide +kernel
theorem dX0_find_23 : decode cX0_find 23 = .ok (.iconst 0, 1) := by decide +kernel
theorem dX0_find_24 : decode cX0_find 24 = .ok (.iload 4, 2) := by decide +kernel
theorem dX0_find_26 : decode cX0_find 26 = .ok (.invokevirtual 24, 3) := by decide +kernel
theorem dX0_find_29 : decode cX0_find 29 = .ok (.aload_n 0, 1) := by decide +kernel
theorem dX0_find_30 : decode cX0_find 30 = .ok (.getfield 18, 3) := by decide +kernel
theorem dX0_find_33 : decode cX0_find 33 = .ok (.ireturn, 1) := by decide +kernel
set_option maxRecDepth 20000 in
theorem ggX0_search_X5_measure : GoodIn wsX0_search wsX5_measure := goodIn_r _ [8, 9, 10, 11, 12, 13, 14, 15, 16, 17, 18, 19, 7, 20, 21, 22, 23, 24, 50, 51, 52, 53, 54, 55, 56] (by decide +kernel) (by decide +kernel)
set_option maxRecDepth 20000 in
theorem gX0_search_X5_measure : GoodIn wsX0_search (wsV RX0 28 RX5 yX5_measure wsX5_measure) := goodIn_app (goodIn_of _ (by decide +kernel)) ggX0_search_X5_measure
set_option maxRecDepth 20000 in
theorem ggX0_search_X0_take : GoodIn wsX0_search wsX0_take := goodIn_r _ [29, 30, 31, 32, 33, 34, 35, 36, 37, 38, 46, 47, 48, 49] (by decide +kernel) (by decide +kernel)
set_option maxRecDepth 20000 in
theorem gX0_search_X0_take : GoodIn wsX0_search (wsV RX0 34 RX0 yX0_take wsX0_take) := goodIn_app (goodIn_of _ (by decide +kernel)) ggX0_search_X0_take
set_option maxRecDepth 20000 in
theorem ggX0_search_X5_wayTo : GoodIn wsX0_search wsX5_wayTo := goodIn_r _ [42, 11, 22, 50, 51, 52, 53, 54, 55, 56] (by decide +kernel) (by decide +kernel)
set_option maxRecDepth 20000 in
theorem gX0_search_X5_wayTo : GoodIn wsX0_search (wsV RX0 39 RX5 yX5_wayTo wsX5_wayTo) := goodIn_app (goodIn_of _ (by decide +kernel)) ggX0_search_X5_wayTo
set_option maxRecDepth 20000 in
theorem ggX0_search_X0_search : GoodIn wsX0_search wsX0_search := goodIn_r _ [0, 1, 2, 3, 4, 5, 6, 7, 8, 9, 10, 11, 12, 13, 14, 15, 16, 17, 18, 19, 20, 21, 22, 23, 24, 25, 26, 27, 28, 29, 30, 31, 32, 33, 34, 35, 36, 37, 38, 39, 40, 41, 42, 43, 44, 45, 46, 47, 48, 49, 50, 51, 52, 53, 54, 55, 56] (by decide +kernel) (by decide +kernel)
set_option maxRecDepth 20000 in
theorem gX0_search_X0_search : GoodIn wsX0_search (wsV RX0 24 RX0 yX0_search wsX0_search) := goodIn_app (goodIn_of _ (by decide +kernel)) ggX0_search_X0_search
theorem dX0_search_0 : decode cX0_search 0 = .ok (.aload_n 1, 1) := by decide +kernel
theorem dX0_search_1 : decode cX0_search 1 = .ok (.aload_n 0, 1) := by decide +kernel
theorem dX0_search_2 : decode cX0_search 2 = .ok (.getfield 9, 3) := by decide +kernel
theorem dX0_search_5 : decode cX0_search 5 = .ok (.aload_n 0, 1) := by decide +kernel
theorem dX0_search_6 : decode cX0_search 6 = .ok (.getfield 15, 3) := by decide +kernel
theorem dX0_search_9 : decode cX0_search 9 = .ok (.iload_n 2, 1) := by decide +kernel
theorem dX0_search_10 : decode cX0_search 10 = .ok (.invokevirtual 28, 3) := by decide +kernel
theorem dX0_search_13 : decode cX0_search 13 = .ok (.istore 5, 2) := by decide +kernel
theorem dX0_search_15 : decode cX0_search 15 = .ok (.aload_n 0, 1) := by decide +kernel
theorem dX0_search_16 : decode cX0_search 16 = .ok (.iload_n 2, 1) := by decide +kernel
theorem dX0_search_17 : decode cX0_search 17 = .ok (.iload 5, 2) := by decide +kernel
theorem dX0_search_19 : decode cX0_search 19 = .ok (.invokevirtual 34, 3) := by decide +kernel
theorem dX0_search_22 : decode cX0_search 22 = .ok (.iload 4, 2) := by decide +kernel
theorem dX0_search_24 : decode cX0_search 24 = .ok (.ifCond .le 10, 3) := by decide +kernel
theorem dX0_search_27 : decode cX0_search 27 = .ok (.iload 5, 2) := by decide +kernel
theorem dX0_search_29 : decode cX0_search 29 = .ok (.ldc 38, 2) := by decide +kernel
theorem dX0_search_31 : decode cX0_search 31 = .ok (.if_icmp .lt 4, 3) := by decide +kernel
theorem dX0_search_34 : decode cX0_search 34 = .ok (.return_, 1) := by decide +kernel
theorem dX0_search_35 : decode cX0_search 35 = .ok (.aload_n 1, 1) := by decide +kernel
theorem dX0_search_36 : decode cX0_search 36 = .ok (.aload_n 0, 1) := by decide +kernel
theorem dX0_search_37 : decode cX0_search 37 = .ok (.getfield 15, 3) := by decide +kernel
theorem dX0_search_40 : decode cX0_search 40 = .ok (.invokevirtual 39, 3) := by decide +kernel
theorem dX0_search_43 : decode cX0_search 43 = .ok (.istore 6, 2) := by decide +kernel
theorem dX0_search_45 : decode cX0_search 45 = .ok (.iload_n 3, 1) := by decide +kernel
theorem dX0_search_46 : decode cX0_search 46 = .ok (.istore 7, 2) := by decide +kernel
theorem dX0_search_48 : decode cX0_search 48 = .ok (.iconst 0, 1) := by decide +kernel
theorem dX0_search_49 : decode cX0_search 49 = .ok (.istore 8, 2) := by decide +kernel
theorem dX0_search_51 : decode cX0_search 51 = .ok (.iload 8, 2) := by decide +kernel
theorem dX0_search_53 : decode cX0_search 53 = .ok (.bipush 16, 2) := by decide +kernel
theorem dX0_search_55 : decode cX0_search 55 = .ok (.if_icmp .ge 50, 3) := by decide +kernel
theorem dX0_search_58 : decode cX0_search 58 = .ok (.iconst 1, 1) := by decide +kernel
theorem dX0_search_59 : decode cX0_search 59 = .ok (.iload 8, 2) := by decide +kernel
theorem dX0_search_61 : decode cX0_search 61 = .ok (.ishl, 1) := by decide +kernel
theorem dX0_search_62 : decode cX0_search 62 = .ok (.istore 9, 2) := by decide +kernel
theorem dX0_search_64 : decode cX0_search 64 = .ok (.iload 6, 2) := by decide +kernel
theorem dX0_search_66 : decode cX0_search 66 = .ok (.iload 7, 2) := by decide +kernel
theorem dX0_search_68 : decode cX0_search 68 = .ok (.iconst (-1), 1) := by decide +kernel
theorem dX0_search_69 : decode cX0_search 69 = .ok (.ixor, 1) := by decide +kernel
theorem dX0_search_70 : decode cX0_search 70 = .ok (.iand, 1) := by decide +kernel
theorem dX0_search_71 : decode cX0_search 71 = .ok (.iload 9, 2) := by decide +kernel
theorem dX0_search_73 : decode cX0_search 73 = .ok (.iand, 1) := by decide +kernel
theorem dX0_search_74 : decode cX0_search 74 = .ok (.ifCond .eq 25, 3) := by decide +kernel
theorem dX0_search_77 : decode cX0_search 77 = .ok (.aload_n 0, 1) := by decide +kernel
theorem dX0_search_78 : decode cX0_search 78 = .ok (.aload_n 1, 1) := by decide +kernel
theorem dX0_search_79 : decode cX0_search 79 = .ok (.iload_n 2, 1) := by decide +kernel
theorem dX0_search_80 : decode cX0_search 80 = .ok (.iload 9, 2) := by decide +kernel
theorem dX0_search_82 : decode cX0_search 82 = .ok (.ior, 1) := by decide +kernel
theorem dX0_search_83 : decode cX0_search 83 = .ok (.iload 7, 2) := by decide +kernel
theorem dX0_search_85 : decode cX0_search 85 = .ok (.iload 4, 2) := by decide +kernel
theorem dX0_search_87 : decode cX0_search 87 = .ok (.iconst 1, 1) := by decide +kernel
theorem dX0_search_88 : decode cX0_search 88 = .ok (.isub, 1) := by decide +kernel
theorem dX0_search_89 : decode cX0_search 89 = .ok (.invokevirtual 24, 3) := by decide +kernel
theorem dX0_search_92 : decode cX0_search 92 = .ok (.iload 7, 2) := by decide +kernel
theorem dX0_search_94 : decode cX0_search 94 = .ok (.iload 9, 2) := by decide +kernel
theorem dX0_search_96 : decode cX0_search 96 = .ok (.ior, 1) := by decide +kernel
theorem dX0_search_97 : decode cX0_search 97 = .ok (.istore 7, 2) := by decide +kernel
theorem dX0_search_99 : decode cX0_search 99 = .ok (.iinc 8 1, 3) := by decide +kernel
theorem dX0_search_102 : decode cX0_search 102 = .ok (.goto (-51), 3) := by decide +kernel
theorem dX0_search_105 : decode cX0_search 105 = .ok (.return_, 1) := by decide +kernel
set_option maxRecDepth 20000 in
theorem ggX0_take_J6_bitCount_0f7a4 : GoodIn wsX0_take wsJ6_bitCount_0f7a4 := goodIn_r _ [6, 7, 8, 9] (by decide +kernel) (by decide +kernel)
set_option maxRecDepth 20000 in
theorem gX0_take_J6_bitCount_0f7a4 : GoodIn wsX0_take (va_wsS RX0 43 yJ6_bitCount_0f7a4 wsJ6_bitCount_0f7a4) := goodIn_app (goodIn_of _ (by decide +kernel)) ggX0_take_J6_bitCount_0f7a4
theorem dX0_take_0 : decode cX0_take 0 = .ok (.aload_n 0, 1) := by decide +kernel
theorem dX0_take_1 : decode cX0_take 1 = .ok (.getfield 18, 3) := by decide +kernel
theorem dX0_take_4 : decode cX0_take 4 = .ok (.invokestatic 43, 3) := by decide +kernel
theorem dX0_take_7 : decode cX0_take 7 = .ok (.iload_n 1, 1) := by decide +kernel
theorem dX0_take_8 : decode cX0_take 8 = .ok (.invokestatic 43, 3) := by decide +kernel
theorem dX0_take_11 : decode cX0_take 11 = .ok (.isub, 1) := by decide +kernel
theorem dX0_take_12 : decode cX0_take 12 = .ok (.istore_n 3, 1) := by decide +kernel
theorem dX0_take_13 : decode cX0_take 13 = .ok (.iload_n 3, 1) := by decide +kernel
theorem dX0_take_14 : decode cX0_take 14 = .ok (.ifCond .gt 15, 3) := by decide +kernel
theorem dX0_take_17 : decode cX0_take 17 = .ok (.iload_n 3, 1) := by decide +kernel
theorem dX0_take_18 : decode cX0_take 18 = .ok (.ifCond .ne 15, 3) := by decide +kernel
theorem dX0_take_21 : decode cX0_take 21 = .ok (.iload_n 1, 1) := by decide +kernel
theorem dX0_take_22 : decode cX0_take 22 = .ok (.aload_n 0, 1) := by decide +kernel
theorem dX0_take_23 : decode cX0_take 23 = .ok (.getfield 18, 3) := by decide +kernel
theorem dX0_take_26 : decode cX0_take 26 = .ok (.if_icmp .ge 7, 3) := by decide +kernel
theorem dX0_take_29 : decode cX0_take 29 = .ok (.iconst 1, 1) := by decide +kernel
theorem dX0_take_30 : decode cX0_take 30 = .ok (.goto 4, 3) := by decide +kernel
theorem dX0_take_33 : decode cX0_take 33 = .ok (.iconst 0, 1) := by decide +kernel
theorem dX0_take_34 : decode cX0_take 34 = .ok (.istore 4, 2) := by decide +kernel
theorem dX0_take_36 : decode cX0_take 36 = .ok (.iload_n 2, 1) := by decide +kernel
theorem dX0_take_37 : decode cX0_take 37 = .ok (.aload_n 0, 1) := by decide +kernel
theorem dX0_take_38 : decode cX0_take 38 = .ok (.getfield 21, 3) := by decide +kernel
theorem dX0_take_41 : decode cX0_take 41 = .ok (.if_icmp .gt 16, 3) := by decide +kernel
theorem dX0_take_44 : decode cX0_take 44 = .ok (.iload_n 2, 1) := by decide +kernel
theorem dX0_take_45 : decode cX0_take 45 = .ok (.aload_n 0, 1) := by decide +kernel
theorem dX0_take_46 : decode cX0_take 46 = .ok (.getfield 21, 3) := by decide +kernel
theorem dX0_take_49 : decode cX0_take 49 = .ok (.if_icmp .ne 18, 3) := by decide +kernel
theorem dX0_take_52 : decode cX0_take 52 = .ok (.iload 4, 2) := by decide +kernel
theorem dX0_take_54 : decode cX0_take 54 = .ok (.ifCond .eq 13, 3) := by decide +kernel
theorem dX0_take_57 : decode cX0_take 57 = .ok (.aload_n 0, 1) := by decide +kernel
theorem dX0_take_58 : decode cX0_take 58 = .ok (.iload_n 1, 1) := by decide +kernel
theorem dX0_take_59 : decode cX0_take 59 = .ok (.putfield 18, 3) := by decide +kernel
theorem dX0_take_62 : decode cX0_take 62 = .ok (.aload_n 0, 1) := by decide +kernel
theorem dX0_take_63 : decode cX0_take 63 = .ok (.iload_n 2, 1) := by decide +kernel
theorem dX0_take_64 : decode cX0_take 64 = .ok (.putfield 21, 3) := by decide +kernel
theorem dX0_take_67 : decode cX0_take 67 = .ok (.return_, 1) := by decide +kernel
theorem dX1_init_0 : decode cX1_init 0 = .ok (.aload_n 0, 1) := by decide +kernel
theorem dX1_init_1 : decode cX1_init 1 = .ok (.invokespecial 3, 3) := by decide +kernel
theorem dX1_init_4 : decode cX1_init 4 = .ok (.aload_n 0, 1) := by decide +kernel
theorem dX1_init_5 : decode cX1_init 5 = .ok (.bipush 12, 2) := by decide +kernel
theorem dX1_init_7 : decode cX1_init 7 = .ok (.newarray .long, 2) := by decide +kernel
theorem dX1_init_9 : decode cX1_init 9 = .ok (.putfield 9, 3) := by decide +kernel
theorem dX1_init_12 : decode cX1_init 12 = .ok (.return_, 1) := by decide +kernel
set_option maxRecDepth 20000 in
theorem ggX1_make_X1_restOf : GoodIn wsX1_make wsX1_restOf := goodIn_r _ [9] (by decide +kernel) (by decide +kernel)
set_option maxRecDepth 20000 in
theorem gX1_make_X1_restOf : GoodIn wsX1_make (va_wsS RX1 29 yX1_restOf wsX1_restOf) := goodIn_app (goodIn_of _ (by decide +kernel)) ggX1_make_X1_restOf
set_option maxRecDepth 20000 in
theorem ggX1_make_X1_addCut : GoodIn wsX1_make wsX1_addCut := goodIn_r _ [13, 1, 2, 14, 15] (by decide +kernel) (by decide +kernel)
set_option maxRecDepth 20000 in
theorem gX1_make_X1_addCut : GoodIn wsX1_make (wsV RX1 33 RX1 yX1_addCut wsX1_addCut) := goodIn_app (goodIn_of _ (by decide +kernel)) ggX1_make_X1_addCut
theorem dX1_make_0 : decode cX1_make 0 = .ok (.aload_n 0, 1) := by decide +kernel
theorem dX1_make_1 : decode cX1_make 1 = .ok (.iconst 1, 1) := by decide +kernel
theorem dX1_make_2 : decode cX1_make 2 = .ok (.putfield 15, 3) := by decide +kernel
theorem dX1_make_5 : decode cX1_make 5 = .ok (.aload_n 0, 1) := by decide +kernel
theorem dX1_make_6 : decode cX1_make 6 = .ok (.getfield 9, 3) := by decide +kernel
theorem dX1_make_9 : decode cX1_make 9 = .ok (.iconst 0, 1) := by decide +kernel
theorem dX1_make_10 : decode cX1_make 10 = .ok (.lconst 0, 1) := by decide +kernel
theorem dX1_make_11 : decode cX1_make 11 = .ok (.lastore, 1) := by decide +kernel
theorem dX1_make_12 : decode cX1_make 12 = .ok (.lconst 0, 1) := by decide +kernel
theorem dX1_make_13 : decode cX1_make 13 = .ok (.lstore_n 2, 1) := by decide +kernel
theorem dX1_make_14 : decode cX1_make 14 = .ok (.iconst 0, 1) := by decide +kernel
theorem dX1_make_15 : decode cX1_make 15 = .ok (.istore 4, 2) := by decide +kernel
theorem dX1_make_17 : decode cX1_make 17 = .ok (.iload 4, 2) := by decide +kernel
theorem dX1_make_19 : decode cX1_make 19 = .ok (.aload_n 1, 1) := by decide +kernel
theorem dX1_make_20 : decode cX1_make 20 = .ok (.getfield 19, 3) := by decide +kernel
theorem dX1_make_23 : decode cX1_make 23 = .ok (.if_icmp .ge 31, 3) := by decide +kernel
theorem dX1_make_26 : decode cX1_make 26 = .ok (.lload_n 2, 1) := by decide +kernel
theorem dX1_make_27 : decode cX1_make 27 = .ok (.aload_n 1, 1) := by decide +kernel
theorem dX1_make_28 : decode cX1_make 28 = .ok (.getfield 22, 3) := by decide +kernel
theorem dX1_make_31 : decode cX1_make 31 = .ok (.iload 4, 2) := by decide +kernel
theorem dX1_make_33 : decode cX1_make 33 = .ok (.laload, 1) := by decide +kernel
theorem dX1_make_34 : decode cX1_make 34 = .ok (.ladd, 1) := by decide +kernel
theorem dX1_make_35 : decode cX1_make 35 = .ok (.lstore_n 2, 1) := by decide +kernel
theorem dX1_make_36 : decode cX1_make 36 = .ok (.aload_n 0, 1) := by decide +kernel
theorem dX1_make_37 : decode cX1_make 37 = .ok (.lload_n 2, 1) := by decide +kernel
theorem dX1_make_38 : decode cX1_make 38 = .ok (.aload_n 1, 1) := by decide +kernel
theorem dX1_make_39 : decode cX1_make 39 = .ok (.getfield 25, 3) := by decide +kernel
theorem dX1_make_42 : decode cX1_make 42 = .ok (.invokestatic 29, 3) := by decide +kernel
theorem dX1_make_45 : decode cX1_make 45 = .ok (.invokevirtual 33, 3) := by decide +kernel
theorem dX1_make_48 : decode cX1_make 48 = .ok (.iinc 4 1, 3) := by decide +kernel
theorem dX1_make_51 : decode cX1_make 51 = .ok (.goto (-34), 3) := by decide +kernel
theorem dX1_make_54 : decode cX1_make 54 = .ok (.aload_n 0, 1) := by decide +kernel
theorem dX1_make_55 : decode cX1_make 55 = .ok (.getfield 9, 3) := by decide +kernel
theorem dX1_make_58 : decode cX1_make 58 = .ok (.aload_n 0, 1) := by decide +kernel
theorem dX1_make_59 : decode cX1_make 59 = .ok (.getfield 15, 3) := by decide +kernel
theorem dX1_make_62 : decode cX1_make 62 = .ok (.aload_n 1, 1) := by decide +kernel
theorem dX1_make_63 : decode cX1_make 63 = .ok (.getfield 25, 3) := by decide +kernel
theorem dX1_make_66 : decode cX1_make 66 = .ok (.lastore, 1) := by decide +kernel
theorem dX1_make_67 : decode cX1_make 67 = .ok (.return_, 1) := by decide +kernel
set_option maxRecDepth 20000 in
theorem ggX1_membersAt_X1_restOf : GoodIn wsX1_membersAt wsX1_restOf := goodIn_r _ [7] (by decide +kernel) (by decide +kernel)
set_option maxRecDepth 20000 in
theorem gX1_membersAt_X1_restOf : GoodIn wsX1_membersAt (va_wsS RX1 29 yX1_restOf wsX1_restOf) := goodIn_app (goodIn_of _ (by decide +kernel)) ggX1_membersAt_X1_restOf
theorem dX1_membersAt_0 : decode cX1_membersAt 0 = .ok (.iconst 0, 1) := by decide +kernel
theorem dX1_membersAt_1 : decode cX1_membersAt 1 = .ok (.istore 4, 2) := by decide +kernel
theorem dX1_membersAt_3 : decode cX1_membersAt 3 = .ok (.lconst 0, 1) := by decide +kernel
theorem dX1_membersAt_4 : decode cX1_membersAt 4 = .ok (.lstore 5, 2) := by decide +kernel
theorem dX1_membersAt_6 : decode cX1_membersAt 6 = .ok (.iconst 0, 1) := by decide +kernel
theorem dX1_membersAt_7 : decode cX1_membersAt 7 = .ok (.istore 7, 2) := by decide +kernel
theorem dX1_membersAt_9 : decode cX1_membersAt 9 = .ok (.iload 7, 2) := by decide +kernel
theorem dX1_membersAt_11 : decode cX1_membersAt 11 = .ok (.aload_n 1, 1) := by decide +kernel
theorem dX1_membersAt_12 : decode cX1_membersAt 12 = .ok (.getfield 19, 3) := by decide +kernel
theorem dX1_membersAt_15 : decode cX1_membersAt 15 = .ok (.if_icmp .ge 75, 3) := by decide +kernel
theorem dX1_membersAt_18 : decode cX1_membersAt 18 = .ok (.lload 5, 2) := by decide +kernel
theorem dX1_membersAt_20 : decode cX1_membersAt 20 = .ok (.aload_n 1, 1) := by decide +kernel
theorem dX1_membersAt_21 : decode cX1_membersAt 21 = .ok (.getfield 22, 3) := by decide +kernel
theorem dX1_membersAt_24 : decode cX1_membersAt 24 = .ok (.iload 7, 2) := by decide +kernel
theorem dX1_membersAt_26 : decode cX1_membersAt 26 = .ok (.laload, 1) := by decide +kernel
theorem dX1_membersAt_27 : decode cX1_membersAt 27 = .ok (.ladd, 1) := by decide +kernel
theorem dX1_membersAt_28 : decode cX1_membersAt 28 = .ok (.lstore 8, 2) := by decide +kernel
theorem dX1_membersAt_30 : decode cX1_membersAt 30 = .ok (.lload 5, 2) := by decide +kernel
theorem dX1_membersAt_32 : decode cX1_membersAt 32 = .ok (.lload 5, 2) := by decide +kernel
theorem dX1_membersAt_34 : decode cX1_membersAt 34 = .ok (.aload_n 1, 1) := by decide +kernel
theorem dX1_membersAt_35 : decode cX1_membersAt 35 = .ok (.getfield 25, 3) := by decide +kernel
theorem dX1_membersAt_38 : decode cX1_membersAt 38 = .ok (.invokestatic 29, 3) := by decide +kernel
theorem dX1_membersAt_41 : decode cX1_membersAt 41 = .ok (.lsub, 1) := by decide +kernel
theorem dX1_membersAt_42 : decode cX1_membersAt 42 = .ok (.lload_n 2, 1) := by decide +kernel
theorem dX1_membersAt_43 : decode cX1_membersAt 43 = .ok (.ladd, 1) := by decide +kernel
theorem dX1_membersAt_44 : decode cX1_membersAt 44 = .ok (.lstore 10, 2) := by decide +kernel
theorem dX1_membersAt_46 : decode cX1_membersAt 46 = .ok (.lload 10, 2) := by decide +kernel
theorem dX1_membersAt_48 : decode cX1_membersAt 48 = .ok (.lload 5, 2) := by decide +kernel
theorem dX1_membersAt_50 : decode cX1_membersAt 50 = .ok (.lcmp, 1) := by decide +kernel
theorem dX1_membersAt_51 : decode cX1_membersAt 51 = .ok (.ifCond .ge 12, 3) := by decide +kernel
theorem dX1_membersAt_54 : decode cX1_membersAt 54 = .ok (.lload 10, 2) := by decide +kernel
theorem dX1_membersAt_56 : decode cX1_membersAt 56 = .ok (.aload_n 1, 1) := by decide +kernel
theorem dX1_membersAt_57 : decode cX1_membersAt 57 = .ok (.getfield 25, 3) := by decide +kernel
theorem dX1_membersAt_60 : decode cX1_membersAt 60 = .ok (.ladd, 1) := by decide +kernel
theorem dX1_membersAt_61 : decode cX1_membersAt 61 = .ok (.lstore 10, 2) := by decide +kernel
theorem dX1_membersAt_63 : decode cX1_membersAt 63 = .ok (.lload 10, 2) := by decide +kernel
theorem dX1_membersAt_65 : decode cX1_membersAt 65 = .ok (.lload 8, 2) := by decide +kernel
theorem dX1_membersAt_67 : decode cX1_membersAt 67 = .ok (.lcmp, 1) := by decide +kernel
theorem dX1_membersAt_68 : decode cX1_membersAt 68 = .ok (.ifCond .ge 12, 3) := by decide +kernel
theorem dX1_membersAt_71 : decode cX1_membersAt 71 = .ok (.iload 4, 2) := by decide +kernel
theorem dX1_membersAt_73 : decode cX1_membersAt 73 = .ok (.iconst 1, 1) := by decide +kernel
theorem dX1_membersAt_74 : decode cX1_membersAt 74 = .ok (.iload 7, 2) := by decide +kernel
theorem dX1_membersAt_76 : decode cX1_membersAt 76 = .ok (.ishl, 1) := by decide +kernel
theorem dX1_membersAt_77 : decode cX1_membersAt 77 = .ok (.ior, 1) := by decide +kernel
theorem dX1_membersAt_78 : decode cX1_membersAt 78 = .ok (.istore 4, 2) := by decide +kernel
theorem dX1_membersAt_80 : decode cX1_membersAt 80 = .ok (.lload 8, 2) := by decide +kernel
theorem dX1_membersAt_82 : decode cX1_membersAt 82 = .ok (.lstore 5, 2) := by decide +kernel
theorem dX1_membersAt_84 : decode cX1_membersAt 84 = .ok (.iinc 7 1, 3) := by decide +kernel
theorem dX1_membersAt_87 : decode cX1_membersAt 87 = .ok (.goto (-78), 3) := by decide +kernel
theorem dX1_membersAt_90 : decode cX1_membersAt 90 = .ok (.iload 4, 2) := by decide +kernel
theorem dX1_membersAt_92 : decode cX1_membersAt 92 = .ok (.ireturn, 1) := by decide +kernel
theorem dX1_restOf_0 : decode cX1_restOf 0 = .ok (.lload_n 2, 1) := by decide +kernel
theorem dX1_restOf_1 : decode cX1_restOf 1 = .ok (.lconst 0, 1) := by decide +kernel
theorem dX1_restOf_2 : decode cX1_restOf 2 = .ok (.lcmp, 1) := by decide +kernel
theorem dX1_restOf_3 : decode cX1_restOf 3 = .ok (.ifCond .gt 7, 3) := by decide +kernel
theorem dX1_restOf_6 : decode cX1_restOf 6 = .ok (.lconst 0, 1) := by decide +kernel
theorem dX1_restOf_7 : decode cX1_restOf 7 = .ok (.goto 6, 3) := by decide +kernel
theorem dX1_restOf_10 : decode cX1_restOf 10 = .ok (.lload_n 0, 1) := by decide +kernel
theorem dX1_restOf_11 : decode cX1_restOf 11 = .ok (.lload_n 2, 1) := by decide +kernel
theorem dX1_restOf_12 : decode cX1_restOf 12 = .ok (.lrem, 1) := by decide +kernel
theorem dX1_restOf_13 : decode cX1_restOf 13 = .ok (.lreturn, 1) := by decide +kernel
theorem dX1_addCut_0 : decode cX1_addCut 0 = .ok (.iconst 0, 1) := by decide +kernel
theorem dX1_addCut_1 : decode cX1_addCut 1 = .ok (.istore_n 3, 1) := by decide +kernel
theorem dX1_addCut_2 : decode cX1_addCut 2 = .ok (.iload_n 3, 1) := by decide +kernel
theorem dX1_addCut_3 : decode cX1_addCut 3 = .ok (.aload_n 0, 1) := by decide +kernel
theorem dX1_addCut_4 : decode cX1_addCut 4 = .ok (.getfield 15, 3) := by decide +kernel
theorem dX1_addCut_7 : decode cX1_addCut 7 = .ok (.if_icmp .ge 20, 3) := by decide +kernel
theorem dX1_addCut_10 : decode cX1_addCut 10 = .ok (.aload_n 0, 1) := by decide +kernel
theorem dX1_addCut_11 : decode cX1_addCut 11 = .ok (.getfield 9, 3) := by decide +kernel
theorem dX1_addCut_14 : decode cX1_addCut 14 = .ok (.iload_n 3, 1) := by decide +kernel
theorem dX1_addCut_15 : decode cX1_addCut 15 = .ok (.laload, 1) := by decide +kernel
theorem dX1_addCut_16 : decode cX1_addCut 16 = .ok (.lload_n 1, 1) := by decide +kernel
theorem dX1_addCut_17 : decode cX1_addCut 17 = .ok (.lcmp, 1) := by decide +kernel
theorem dX1_addCut_18 : decode cX1_addCut 18 = .ok (.ifCond .ge 9, 3) := by decide +kernel
theorem dX1_addCut_21 : decode cX1_addCut 21 = .ok (.iinc 3 1, 3) := by decide +kernel
theorem dX1_addCut_24 : decode cX1_addCut 24 = .ok (.goto (-22), 3) := by decide +kernel
theorem dX1_addCut_27 : decode cX1_addCut 27 = .ok (.iload_n 3, 1) := by decide +kernel
theorem dX1_addCut_28 : decode cX1_addCut 28 = .ok (.aload_n 0, 1) := by decide +kernel
theorem dX1_addCut_29 : decode cX1_addCut 29 = .ok (.getfield 15, 3) := by decide +kernel
theorem dX1_addCut_32 : decode cX1_addCut 32 = .ok (.if_icmp .ge 15, 3) := by decide +kernel
theorem dX1_addCut_35 : decode cX1_addCut 35 = .ok (.aload_n 0, 1) := by decide +kernel
theorem dX1_addCut_36 : decode cX1_addCut 36 = .ok (.getfield 9, 3) := by decide +kernel
theorem dX1_addCut_39 : decode cX1_addCut 39 = .ok (.iload_n 3, 1) := by decide +kernel
theorem dX1_addCut_40 : decode cX1_addCut 40 = .ok (.laload, 1) := by decide +kernel
theorem dX1_addCut_41 : decode cX1_addCut 41 = .ok (.lload_n 1, 1) := by decide +kernel
theorem dX1_addCut_42 : decode cX1_addCut 42 = .ok (.lcmp, 1) := by decide +kernel
theorem dX1_addCut_43 : decode cX1_addCut 43 = .ok (.ifCond .ne 4, 3) := by decide +kernel
theorem dX1_addCut_46 : decode cX1_addCut 46 = .ok (.return_, 1) := by decide +kernel
theorem dX1_addCut_47 : decode cX1_addCut 47 = .ok (.aload_n 0, 1) := by decide +kernel
theorem dX1_addCut_48 : decode cX1_addCut 48 = .ok (.getfield 15, 3) := by decide +kernel
theorem dX1_addCut_51 : decode cX1_addCut 51 = .ok (.istore 4, 2) := by decide +kernel
theorem dX1_addCut_53 : decode cX1_addCut 53 = .ok (.iload 4, 2) := by decide +kernel
theorem dX1_addCut_55 : decode cX1_addCut 55 = .ok (.iload_n 3, 1) := by decide +kernel
theorem dX1_addCut_56 : decode cX1_addCut 56 = .ok (.if_icmp .le 25, 3) := by decide +kernel
theorem dX1_addCut_59 : decode cX1_addCut 59 = .ok (.aload_n 0, 1) := by decide +kernel
theorem dX1_addCut_60 : decode cX1_addCut 60 = .ok (.getfield 9, 3) := by decide +kernel
theorem dX1_addCut_63 : decode cX1_addCut 63 = .ok (.iload 4, 2) := by decide +kernel
theorem dX1_addCut_65 : decode cX1_addCut 65 = .ok (.aload_n 0, 1) := by decide +kernel
theorem dX1_addCut_66 : decode cX1_addCut 66 = .ok (.getfield 9, 3) := by decide +kernel
theorem dX1_addCut_69 : decode cX1_addCut 69 = .ok (.iload 4, 2) := by decide +kernel
theorem dX1_addCut_71 : decode cX1_addCut 71 = .ok (.iconst 1, 1) := by decide +kernel
theorem dX1_addCut_72 : decode cX1_addCut 72 = .ok (.isub, 1) := by decide +kernel
theorem dX1_addCut_73 : decode cX1_addCut 73 = .ok (.laload, 1) := by decide +kernel
theorem dX1_addCut_74 : decode cX1_addCut 74 = .ok (.lastore, 1) := by decide +kernel
theorem dX1_addCut_75 : decode cX1_addCut 75 = .ok (.iinc 4 (-1), 3) := by decide +kernel
theorem dX1_addCut_78 : decode cX1_addCut 78 = .ok (.goto (-25), 3) := by decide +kernel
theorem dX1_addCut_81 : decode cX1_addCut 81 = .ok (.aload_n 0, 1) := by decide +kernel
theorem dX1_addCut_82 : decode cX1_addCut 82 = .ok (.getfield 9, 3) := by decide +kernel
theorem dX1_addCut_85 : decode cX1_addCut 85 = .ok (.iload_n 3, 1) := by decide +kernel
theorem dX1_addCut_86 : decode cX1_addCut 86 = .ok (.lload_n 1, 1) := by decide +kernel
theorem dX1_addCut_87 : decode cX1_addCut 87 = .ok (.lastore, 1) := by decide +kernel
theorem dX1_addCut_88 : decode cX1_addCut 88 = .ok (.aload_n 0, 1) := by decide +kernel
theorem dX1_addCut_89 : decode cX1_addCut 89 = .ok (.dup, 1) := by decide +kernel
theorem dX1_addCut_90 : decode cX1_addCut 90 = .ok (.getfield 15, 3) := by decide +kernel
theorem dX1_addCut_93 : decode cX1_addCut 93 = .ok (.iconst 1, 1) := by decide +kernel
theorem dX1_addCut_94 : decode cX1_addCut 94 = .ok (.iadd, 1) := by decide +kernel
theorem dX1_addCut_95 : decode cX1_addCut 95 = .ok (.putfield 15, 3) := by decide +kernel
theorem dX1_addCut_98 : decode cX1_addCut 98 = .ok (.return_, 1) := by decide +kernel
theorem dX2_init_0 : decode cX2_init 0 = .ok (.aload_n 0, 1) := by decide +kernel
theorem dX2_init_1 : decode cX2_init 1 = .ok (.invokespecial 3, 3) := by decide +kernel
theorem dX2_init_4 : decode cX2_init 4 = .ok (.aload_n 0, 1) := by decide +kernel
theorem dX2_init_5 : decode cX2_init 5 = .ok (.bipush 20, 2) := by decide +kernel
theorem dX2_init_7 : decode cX2_init 7 = .ok (.newarray .int, 2) := by decide +kernel
theorem dX2_init_9 : decode cX2_init 9 = .ok (.putfield 9, 3) := by decide +kernel
theorem dX2_init_12 : decode cX2_init 12 = .ok (.aload_n 0, 1) := by decide +kernel
theorem dX2_init_13 : decode cX2_init 13 = .ok (.bipush 20, 2) := by decide +kernel
theorem dX2_init_15 : decode cX2_init 15 = .ok (.newarray .int, 2) := by decide +kernel
theorem dX2_init_17 : decode cX2_init 17 = .ok (.putfield 15, 3) := by decide +kernel
theorem dX2_init_20 : decode cX2_init 20 = .ok (.return_, 1) := by decide +kernel
theorem dX2_add_0 : decode cX2_add 0 = .ok (.aload_n 0, 1) := by decide +kernel
theorem dX2_add_1 : decode cX2_add 1 = .ok (.getfield 18, 3) := by decide +kernel
theorem dX2_add_4 : decode cX2_add 4 = .ok (.istore_n 3, 1) := by decide +kernel
theorem dX2_add_5 : decode cX2_add 5 = .ok (.aload_n 0, 1) := by decide +kernel
theorem dX2_add_6 : decode cX2_add 6 = .ok (.getfield 9, 3) := by decide +kernel
theorem dX2_add_9 : decode cX2_add 9 = .ok (.iload_n 3, 1) := by decide +kernel
theorem dX2_add_10 : decode cX2_add 10 = .ok (.iload_n 1, 1) := by decide +kernel
theorem dX2_add_11 : decode cX2_add 11 = .ok (.iastore, 1) := by decide +kernel
theorem dX2_add_12 : decode cX2_add 12 = .ok (.aload_n 0, 1) := by decide +kernel
theorem dX2_add_13 : decode cX2_add 13 = .ok (.getfield 15, 3) := by decide +kernel
theorem dX2_add_16 : decode cX2_add 16 = .ok (.iload_n 3, 1) := by decide +kernel
theorem dX2_add_17 : decode cX2_add 17 = .ok (.iload_n 2, 1) := by decide +kernel
theorem dX2_add_18 : decode cX2_add 18 = .ok (.iastore, 1) := by decide +kernel
theorem dX2_add_19 : decode cX2_add 19 = .ok (.aload_n 0, 1) := by decide +kernel
theorem dX2_add_20 : decode cX2_add 20 = .ok (.dup, 1) := by decide +kernel
theorem dX2_add_21 : decode cX2_add 21 = .ok (.getfield 18, 3) := by decide +kernel
theorem dX2_add_24 : decode cX2_add 24 = .ok (.iconst 1, 1) := by decide +kernel
theorem dX2_add_25 : decode cX2_add 25 = .ok (.iadd, 1) := by decide +kernel
theorem dX2_add_26 : decode cX2_add 26 = .ok (.putfield 18, 3) := by decide +kernel
theorem dX2_add_29 : decode cX2_add 29 = .ok (.iload_n 3, 1) := by decide +kernel
theorem dX2_add_30 : decode cX2_add 30 = .ok (.ireturn, 1) := by decide +kernel
theorem dX2_copyFrom_0 : decode cX2_copyFrom 0 = .ok (.aload_n 0, 1) := by decide +kernel
theorem dX2_copyFrom_1 : decode cX2_copyFrom 1 = .ok (.aload_n 1, 1) := by decide +kernel
theorem dX2_copyFrom_2 : decode cX2_copyFrom 2 = .ok (.getfield 18, 3) := by decide +kernel
theorem dX2_copyFrom_5 : decode cX2_copyFrom 5 = .ok (.putfield 18, 3) := by decide +kernel
theorem dX2_copyFrom_8 : decode cX2_copyFrom 8 = .ok (.aload_n 1, 1) := by decide +kernel
theorem dX2_copyFrom_9 : decode cX2_copyFrom 9 = .ok (.getfield 9, 3) := by decide +kernel
theorem dX2_copyFrom_12 : decode cX2_copyFrom 12 = .ok (.iconst 0, 1) := by decide +kernel
theorem dX2_copyFrom_13 : decode cX2_copyFrom 13 = .ok (.aload_n 0, 1) := by decide +kernel
theorem dX2_copyFrom_14 : decode cX2_copyFrom 14 = .ok (.getfield 9, 3) := by decide +kernel
theorem dX2_copyFrom_17 : decode cX2_copyFrom 17 = .ok (.iconst 0, 1) := by decide +kernel
theorem dX2_copyFrom_18 : decode cX2_copyFrom 18 = .ok (.bipush 20, 2) := by decide +kernel
theorem dX2_copyFrom_20 : decode cX2_copyFrom 20 = .ok (.invokestatic 22, 3) := by decide +kernel
theorem dX2_copyFrom_23 : decode cX2_copyFrom 23 = .ok (.aload_n 1, 1) := by decide +kernel
theorem dX2_copyFrom_24 : decode cX2_copyFrom 24 = .ok (.getfield 15, 3) := by decide +kernel
theorem dX2_copyFrom_27 : decode cX2_copyFrom 27 = .ok (.iconst 0, 1) := by decide +kernel
theorem dX2_copyFrom_28 : decode cX2_copyFrom 28 = .ok (.aload_n 0, 1) := by decide +kernel
theorem dX2_copyFrom_29 : decode cX2_copyFrom 29 = .ok (.getfield 15, 3) := by decide +kernel
theorem dX2_copyFrom_32 : decode cX2_copyFrom 32 = .ok (.iconst 0, 1) := by decide +kernel
theorem dX2_copyFrom_33 : decode cX2_copyFrom 33 = .ok (.bipush 20, 2) := by decide +kernel
theorem dX2_copyFrom_35 : decode cX2_copyFrom 35 = .ok (.invokestatic 22, 3) := by decide +kernel
theorem dX2_copyFrom_38 : decode cX2_copyFrom 38 = .ok (.return_, 1) := by decide +kernel
theorem dX2_weightCaught_0 : decode cX2_weightCaught 0 = .ok (.iconst 0, 1) := by decide +kernel
theorem dX2_weightCaught_1 : decode cX2_weightCaught 1 = .ok (.istore_n 2, 1) := by decide +kernel
theorem dX2_weightCaught_2 : decode cX2_weightCaught 2 = .ok (.iconst 0, 1) := by decide +kernel
theorem dX2_weightCaught_3 : decode cX2_weightCaught 3 = .ok (.istore_n 3, 1) := by decide +kernel
theorem dX2_weightCaught_4 : decode cX2_weightCaught 4 = .ok (.iload_n 3, 1) := by decide +kernel
theorem dX2_weightCaught_5 : decode cX2_weightCaught 5 = .ok (.aload_n 0, 1) := by decide +kernel
theorem dX2_weightCaught_6 : decode cX2_weightCaught 6 = .ok (.getfield 18, 3) := by decide +kernel
theorem dX2_weightCaught_9 : decode cX2_weightCaught 9 = .ok (.if_icmp .ge 29, 3) := by decide +kernel
theorem dX2_weightCaught_12 : decode cX2_weightCaught 12 = .ok (.aload_n 0, 1) := by decide +kernel
theorem dX2_weightCaught_13 : decode cX2_weightCaught 13 = .ok (.getfield 9, 3) := by decide +kernel
theorem dX2_weightCaught_16 : decode cX2_weightCaught 16 = .ok (.iload_n 3, 1) := by decide +kernel
theorem dX2_weightCaught_17 : decode cX2_weightCaught 17 = .ok (.iaload, 1) := by decide +kernel
theorem dX2_weightCaught_18 : decode cX2_weightCaught 18 = .ok (.iload_n 1, 1) := by decide +kernel
theorem dX2_weightCaught_19 : decode cX2_weightCaught 19 = .ok (.iand, 1) := by decide +kernel
theorem dX2_weightCaught_20 : decode cX2_weightCaught 20 = .ok (.ifCond .eq 12, 3) := by decide +kernel
theorem dX2_weightCaught_23 : decode cX2_weightCaught 23 = .ok (.iload_n 2, 1) := by decide +kernel
theorem dX2_weightCaught_24 : decode cX2_weightCaught 24 = .ok (.aload_n 0, 1) := by decide +kernel
theorem dX2_weightCaught_25 : decode cX2_weightCaught 25 = .ok (.getfield 15, 3) := by decide +kernel
theorem dX2_weightCaught_28 : decode cX2_weightCaught 28 = .ok (.iload_n 3, 1) := by decide +kernel
theorem dX2_weightCaught_29 : decode cX2_weightCaught 29 = .ok (.iaload, 1) := by decide +kernel
theorem dX2_weightCaught_30 : decode cX2_weightCaught 30 = .ok (.iadd, 1) := by decide +kernel
theorem dX2_weightCaught_31 : decode cX2_weightCaught 31 = .ok (.istore_n 2, 1) := by decide +kernel
theorem dX2_weightCaught_32 : decode cX2_weightCaught 32 = .ok (.iinc 3 1, 3) := by decide +kernel
theorem dX2_weightCaught_35 : decode cX2_weightCaught 35 = .ok (.goto (-31), 3) := by decide +kernel
theorem dX2_weightCaught_38 : decode cX2_weightCaught 38 = .ok (.iload_n 2, 1) := by decide +kernel
theorem dX2_weightCaught_39 : decode cX2_weightCaught 39 = .ok (.ireturn, 1) := by decide +kernel
set_option maxRecDepth 20000 in
theorem ggX2_heaviestSet_J6_bitCount_0f7a4 : GoodIn wsX2_heaviestSet wsJ6_bitCount_0f7a4 := goodIn_r _ [4, 5, 6, 7] (by decide +kernel) (by decide +kernel)
set_option maxRecDepth 20000 in
theorem gX2_heaviestSet_J6_bitCount_0f7a4 : GoodIn wsX2_heaviestSet (va_wsS RX2 28 yJ6_bitCount_0f7a4 wsJ6_bitCount_0f7a4) := goodIn_app (goodIn_of _ (by decide +kernel)) ggX2_heaviestSet_J6_bitCount_0f7a4
set_option maxRecDepth 20000 in
theorem ggX2_heaviestSet_X2_weightCaught : GoodIn wsX2_heaviestSet wsX2_weightCaught := goodIn_r _ [12, 13, 14, 15, 16, 17, 18] (by decide +kernel) (by decide +kernel)
set_option maxRecDepth 20000 in
theorem gX2_heaviestSet_X2_weightCaught : GoodIn wsX2_heaviestSet (wsV RX2 34 RX2 yX2_weightCaught wsX2_weightCaught) := goodIn_app (goodIn_of _ (by decide +kernel)) ggX2_heaviestSet_X2_weightCaught
theorem dX2_heaviestSet_0 : decode cX2_heaviestSet 0 = .ok (.iconst 0, 1) := by decide +kernel
theorem dX2_heaviestSet_1 : decode cX2_heaviestSet 1 = .ok (.istore_n 2, 1) := by decide +kernel
theorem dX2_heaviestSet_2 : decode cX2_heaviestSet 2 = .ok (.iconst 0, 1) := by decide +kernel
theorem dX2_heaviestSet_3 : decode cX2_heaviestSet 3 = .ok (.istore_n 3, 1) := by decide +kernel
theorem dX2_heaviestSet_4 : decode cX2_heaviestSet 4 = .ok (.iconst 1, 1) := by decide +kernel
theorem dX2_heaviestSet_5 : decode cX2_heaviestSet 5 = .ok (.istore 4, 2) := by decide +kernel
theorem dX2_heaviestSet_7 : decode cX2_heaviestSet 7 = .ok (.iload 4, 2) := by decide +kernel
theorem dX2_heaviestSet_9 : decode cX2_heaviestSet 9 = .ok (.sipush 1023, 3) := by decide +kernel
theorem dX2_heaviestSet_12 : decode cX2_heaviestSet 12 = .ok (.if_icmp .gt 79, 3) := by decide +kernel
theorem dX2_heaviestSet_15 : decode cX2_heaviestSet 15 = .ok (.iload 4, 2) := by decide +kernel
theorem dX2_heaviestSet_17 : decode cX2_heaviestSet 17 = .ok (.invokestatic 28, 3) := by decide +kernel
theorem dX2_heaviestSet_20 : decode cX2_heaviestSet 20 = .ok (.istore 5, 2) := by decide +kernel
theorem dX2_heaviestSet_22 : decode cX2_heaviestSet 22 = .ok (.iload 5, 2) := by decide +kernel
theorem dX2_heaviestSet_24 : decode cX2_heaviestSet 24 = .ok (.iload_n 1, 1) := by decide +kernel
theorem dX2_heaviestSet_25 : decode cX2_heaviestSet 25 = .ok (.if_icmp .gt 12, 3) := by decide +kernel
theorem dX2_heaviestSet_28 : decode cX2_heaviestSet 28 = .ok (.aload_n 0, 1) := by decide +kernel
theorem dX2_heaviestSet_29 : decode cX2_heaviestSet 29 = .ok (.iload 4, 2) := by decide +kernel
theorem dX2_heaviestSet_31 : decode cX2_heaviestSet 31 = .ok (.invokevirtual 34, 3) := by decide +kernel
theorem dX2_heaviestSet_34 : decode cX2_heaviestSet 34 = .ok (.goto 4, 3) := by decide +kernel
theorem dX2_heaviestSet_37 : decode cX2_heaviestSet 37 = .ok (.iconst 0, 1) := by decide +kernel
theorem dX2_heaviestSet_38 : decode cX2_heaviestSet 38 = .ok (.istore 6, 2) := by decide +kernel
theorem dX2_heaviestSet_40 : decode cX2_heaviestSet 40 = .ok (.iload 6, 2) := by decide +kernel
theorem dX2_heaviestSet_42 : decode cX2_heaviestSet 42 = .ok (.iload_n 3, 1) := by decide +kernel
theorem dX2_heaviestSet_43 : decode cX2_heaviestSet 43 = .ok (.if_icmp .ne 16, 3) := by decide +kernel
theorem dX2_heaviestSet_46 : decode cX2_heaviestSet 46 = .ok (.iload 5, 2) := by decide +kernel
theorem dX2_heaviestSet_48 : decode cX2_heaviestSet 48 = .ok (.iload_n 2, 1) := by decide +kernel
theorem dX2_heaviestSet_49 : decode cX2_heaviestSet 49 = .ok (.invokestatic 28, 3) := by decide +kernel
theorem dX2_heaviestSet_52 : decode cX2_heaviestSet 52 = .ok (.if_icmp .ge 7, 3) := by decide +kernel
theorem dX2_heaviestSet_55 : decode cX2_heaviestSet 55 = .ok (.iconst 1, 1) := by decide +kernel
theorem dX2_heaviestSet_56 : decode cX2_heaviestSet 56 = .ok (.goto 4, 3) := by decide +kernel
theorem dX2_heaviestSet_59 : decode cX2_heaviestSet 59 = .ok (.iconst 0, 1) := by decide +kernel
theorem dX2_heaviestSet_60 : decode cX2_heaviestSet 60 = .ok (.istore 7, 2) := by decide +kernel
theorem dX2_heaviestSet_62 : decode cX2_heaviestSet 62 = .ok (.iload 5, 2) := by decide +kernel
theorem dX2_heaviestSet_64 : decode cX2_heaviestSet 64 = .ok (.iload_n 1, 1) := by decide +kernel
theorem dX2_heaviestSet_65 : decode cX2_heaviestSet 65 = .ok (.if_icmp .gt 20, 3) := by decide +kernel
theorem dX2_heaviestSet_68 : decode cX2_heaviestSet 68 = .ok (.iload 6, 2) := by decide +kernel
theorem dX2_heaviestSet_70 : decode cX2_heaviestSet 70 = .ok (.iload_n 3, 1) := by decide +kernel
theorem dX2_heaviestSet_71 : decode cX2_heaviestSet 71 = .ok (.if_icmp .gt 8, 3) := by decide +kernel
theorem dX2_heaviestSet_74 : decode cX2_heaviestSet 74 = .ok (.iload 7, 2) := by decide +kernel
theorem dX2_heaviestSet_76 : decode cX2_heaviestSet 76 = .ok (.ifCond .eq 9, 3) := by decide +kernel
theorem dX2_heaviestSet_79 : decode cX2_heaviestSet 79 = .ok (.iload 4, 2) := by decide +kernel
theorem dX2_heaviestSet_81 : decode cX2_heaviestSet 81 = .ok (.istore_n 2, 1) := by decide +kernel
theorem dX2_heaviestSet_82 : decode cX2_heaviestSet 82 = .ok (.iload 6, 2) := by decide +kernel
theorem dX2_heaviestSet_84 : decode cX2_heaviestSet 84 = .ok (.istore_n 3, 1) := by decide +kernel
theorem dX2_heaviestSet_85 : decode cX2_heaviestSet 85 = .ok (.iinc 4 1, 3) := by decide +kernel
theorem dX2_heaviestSet_88 : decode cX2_heaviestSet 88 = .ok (.goto (-81), 3) := by decide +kernel
theorem dX2_heaviestSet_91 : decode cX2_heaviestSet 91 = .ok (.iload_n 2, 1) := by decide +kernel
theorem dX2_heaviestSet_92 : decode cX2_heaviestSet 92 = .ok (.ireturn, 1) := by decide +kernel
set_option maxRecDepth 20000 in
theorem ggX2_smallestCover_J6_bitCount_0f7a4 : GoodIn wsX2_smallestCover wsJ6_bitCount_0f7a4 := goodIn_r _ [4, 5, 6, 7] (by decide +kernel) (by decide +kernel)
set_option maxRecDepth 20000 in
theorem gX2_smallestCover_J6_bitCount_0f7a4 : GoodIn wsX2_smallestCover (va_wsS RX2 28 yJ6_bitCount_0f7a4 wsJ6_bitCount_0f7a4) := goodIn_app (goodIn_of _ (by decide +kernel)) ggX2_smallestCover_J6_bitCount_0f7a4
set_option maxRecDepth 20000 in
theorem ggX2_smallestCover_X2_catchesAll : GoodIn wsX2_smallestCover wsX2_catchesAll := goodIn_r _ [12, 13, 14, 15, 16, 17] (by decide +kernel) (by decide +kernel)
set_option maxRecDepth 20000 in
theorem gX2_smallestCover_X2_catchesAll : GoodIn wsX2_smallestCover (wsV RX2 37 RX2 yX2_catchesAll wsX2_catchesAll) := goodIn_app (goodIn_of _ (by decide +kernel)) ggX2_smallestCover_X2_catchesAll
theorem dX2_smallestCover_0 : decode cX2_smallestCover 0 = .ok (.sipush 1023, 3) := by decide +kernel
theorem dX2_smallestCover_3 : decode cX2_smallestCover 3 = .ok (.istore_n 1, 1) := by decide +kernel
theorem dX2_smallestCover_4 : decode cX2_smallestCover 4 = .ok (.iconst 0, 1) := by decide +kernel
theorem dX2_smallestCover_5 : decode cX2_smallestCover 5 = .ok (.istore_n 2, 1) := by decide +kernel
theorem dX2_smallestCover_6 : decode cX2_smallestCover 6 = .ok (.iload_n 2, 1) := by decide +kernel
theorem dX2_smallestCover_7 : decode cX2_smallestCover 7 = .ok (.sipush 1023, 3) := by decide +kernel
theorem dX2_smallestCover_10 : decode cX2_smallestCover 10 = .ok (.if_icmp .gt 30, 3) := by decide +kernel
theorem dX2_smallestCover_13 : decode cX2_smallestCover 13 = .ok (.iload_n 2, 1) := by decide +kernel
theorem dX2_smallestCover_14 : decode cX2_smallestCover 14 = .ok (.invokestatic 28, 3) := by decide +kernel
theorem dX2_smallestCover_17 : decode cX2_smallestCover 17 = .ok (.iload_n 1, 1) := by decide +kernel
theorem dX2_smallestCover_18 : decode cX2_smallestCover 18 = .ok (.invokestatic 28, 3) := by decide +kernel
theorem dX2_smallestCover_21 : decode cX2_smallestCover 21 = .ok (.if_icmp .ge 13, 3) := by decide +kernel
theorem dX2_smallestCover_24 : decode cX2_smallestCover 24 = .ok (.aload_n 0, 1) := by decide +kernel
theorem dX2_smallestCover_25 : decode cX2_smallestCover 25 = .ok (.iload_n 2, 1) := by decide +kernel
theorem dX2_smallestCover_26 : decode cX2_smallestCover 26 = .ok (.invokevirtual 37, 3) := by decide +kernel
theorem dX2_smallestCover_29 : decode cX2_smallestCover 29 = .ok (.ifCond .eq 5, 3) := by decide +kernel
theorem dX2_smallestCover_32 : decode cX2_smallestCover 32 = .ok (.iload_n 2, 1) := by decide +kernel
theorem dX2_smallestCover_33 : decode cX2_smallestCover 33 = .ok (.istore_n 1, 1) := by decide +kernel
theorem dX2_smallestCover_34 : decode cX2_smallestCover 34 = .ok (.iinc 2 1, 3) := by decide +kernel
theorem dX2_smallestCover_37 : decode cX2_smallestCover 37 = .ok (.goto (-31), 3) := by decide +kernel
theorem dX2_smallestCover_40 : decode cX2_smallestCover 40 = .ok (.iload_n 1, 1) := by decide +kernel
theorem dX2_smallestCover_41 : decode cX2_smallestCover 41 = .ok (.ireturn, 1) := by decide +kernel
theorem dX2_catchesAll_0 : decode cX2_catchesAll 0 = .ok (.iconst 1, 1) := by decide +kernel
theorem dX2_catchesAll_1 : decode cX2_catchesAll 1 = .ok (.istore_n 2, 1) := by decide +kernel
theorem dX2_catchesAll_2 : decode cX2_catchesAll 2 = .ok (.iconst 0, 1) := by decide +kernel
theorem dX2_catchesAll_3 : decode cX2_catchesAll 3 = .ok (.istore_n 3, 1) := by decide +kernel
theorem dX2_catchesAll_4 : decode cX2_catchesAll 4 = .ok (.iload_n 3, 1) := by decide +kernel
theorem dX2_catchesAll_5 : decode cX2_catchesAll 5 = .ok (.aload_n 0, 1) := by decide +kernel
theorem dX2_catchesAll_6 : decode cX2_catchesAll 6 = .ok (.getfield 18, 3) := by decide +kernel
theorem dX2_catchesAll_9 : decode cX2_catchesAll 9 = .ok (.if_icmp .ge 30, 3) := by decide +kernel
theorem dX2_catchesAll_12 : decode cX2_catchesAll 12 = .ok (.iload_n 2, 1) := by decide +kernel
theorem dX2_catchesAll_13 : decode cX2_catchesAll 13 = .ok (.ifCond .eq 26, 3) := by decide +kernel
theorem dX2_catchesAll_16 : decode cX2_catchesAll 16 = .ok (.aload_n 0, 1) := by decide +kernel
theorem dX2_catchesAll_17 : decode cX2_catchesAll 17 = .ok (.getfield 9, 3) := by decide +kernel
theorem dX2_catchesAll_20 : decode cX2_catchesAll 20 = .ok (.iload_n 3, 1) := by decide +kernel
theorem dX2_catchesAll_21 : decode cX2_catchesAll 21 = .ok (.iaload, 1) := by decide +kernel
theorem dX2_catchesAll_22 : decode cX2_catchesAll 22 = .ok (.iload_n 1, 1) := by decide +kernel
theorem dX2_catchesAll_23 : decode cX2_catchesAll 23 = .ok (.iand, 1) := by decide +kernel
theorem dX2_catchesAll_24 : decode cX2_catchesAll 24 = .ok (.ifCond .eq 7, 3) := by decide +kernel
theorem dX2_catchesAll_27 : decode cX2_catchesAll 27 = .ok (.iconst 1, 1) := by decide +kernel
theorem dX2_catchesAll_28 : decode cX2_catchesAll 28 = .ok (.goto 4, 3) := by decide +kernel
theorem dX2_catchesAll_31 : decode cX2_catchesAll 31 = .ok (.iconst 0, 1) := by decide +kernel
theorem dX2_catchesAll_32 : decode cX2_catchesAll 32 = .ok (.istore_n 2, 1) := by decide +kernel
theorem dX2_catchesAll_33 : decode cX2_catchesAll 33 = .ok (.iinc 3 1, 3) := by decide +kernel
theorem dX2_catchesAll_36 : decode cX2_catchesAll 36 = .ok (.goto (-32), 3) := by decide +kernel
theorem dX2_catchesAll_39 : decode cX2_catchesAll 39 = .ok (.iload_n 2, 1) := by decide +kernel
theorem dX2_catchesAll_40 : decode cX2_catchesAll 40 = .ok (.ireturn, 1) := by decide +kernel
theorem dX3_init_0 : decode cX3_init 0 = .ok (.aload_n 0, 1) := by decide +kernel
theorem dX3_init_1 : decode cX3_init 1 = .ok (.invokespecial 3, 3) := by decide +kernel
theorem dX3_init_4 : decode cX3_init 4 = .ok (.aload_n 0, 1) := by decide +kernel
theorem dX3_init_5 : decode cX3_init 5 = .ok (.lconst 1, 1) := by decide +kernel
theorem dX3_init_6 : decode cX3_init 6 = .ok (.putfield 9, 3) := by decide +kernel
theorem dX3_init_9 : decode cX3_init 9 = .ok (.aload_n 0, 1) := by decide +kernel
theorem dX3_init_10 : decode cX3_init 10 = .ok (.lconst 1, 1) := by decide +kernel
theorem dX3_init_11 : decode cX3_init 11 = .ok (.putfield 15, 3) := by decide +kernel
theorem dX3_init_14 : decode cX3_init 14 = .ok (.aload_n 0, 1) := by decide +kernel
theorem dX3_init_15 : decode cX3_init 15 = .ok (.bipush 10, 2) := by decide +kernel
theorem dX3_init_17 : decode cX3_init 17 = .ok (.newarray .long, 2) := by decide +kernel
theorem dX3_init_19 : decode cX3_init 19 = .ok (.putfield 18, 3) := by decide +kernel
theorem dX3_init_22 : decode cX3_init 22 = .ok (.return_, 1) := by decide +kernel
set_option maxRecDepth 20000 in
theorem ggX3_make_X3_findLevel : GoodIn wsX3_make wsX3_findLevel := goodIn_r _ [19, 20, 21, 22, 8, 6, 2, 9, 10, 11, 12, 23, 24, 18, 25, 3, 26, 27, 28, 29, 30, 31, 32, 33, 47, 48, 49, 50, 51, 52, 53, 54, 55, 56, 57, 58, 59, 60, 61, 62] (by decide +kernel) (by decide +kernel)
set_option maxRecDepth 20000 in
theorem gX3_make_X3_findLevel : GoodIn wsX3_make (wsV RX3 36 RX3 yX3_findLevel wsX3_findLevel) := goodIn_app (goodIn_of _ (by decide +kernel)) ggX3_make_X3_findLevel
set_option maxRecDepth 20000 in
theorem ggX3_make_X3_peak : GoodIn wsX3_make wsX3_peak := goodIn_r _ [25, 20, 21, 3, 47, 48, 49, 50, 51, 52, 53, 54, 55, 56] (by decide +kernel) (by decide +kernel)
set_option maxRecDepth 20000 in
theorem gX3_make_X3_peak : GoodIn wsX3_make (va_wsS RX3 42 yX3_peak wsX3_peak) := goodIn_app (goodIn_of _ (by decide +kernel)) ggX3_make_X3_peak
set_option maxRecDepth 20000 in
theorem ggX3_make_X3_slope : GoodIn wsX3_make wsX3_slope := goodIn_r _ [33, 21, 47, 48, 49, 50, 51, 52, 53, 54, 55, 56] (by decide +kernel) (by decide +kernel)
set_option maxRecDepth 20000 in
theorem gX3_make_X3_slope : GoodIn wsX3_make (va_wsS RX3 55 yX3_slope wsX3_slope) := goodIn_app (goodIn_of _ (by decide +kernel)) ggX3_make_X3_slope
set_option maxRecDepth 20000 in
theorem ggX3_make_X3_findGoal : GoodIn wsX3_make wsX3_findGoal := goodIn_r _ [37, 4, 6, 8, 38, 39, 11, 40, 23, 24, 18, 25, 20, 21, 3, 41, 42, 43, 44, 45, 7, 46, 13, 57, 58, 59, 60, 61, 62, 47, 48, 49, 50, 51, 52, 53, 54, 55, 56] (by decide +kernel) (by decide +kernel)
set_option maxRecDepth 20000 in
theorem gX3_make_X3_findGoal : GoodIn wsX3_make (wsV RX3 58 RX3 yX3_findGoal wsX3_findGoal) := goodIn_app (goodIn_of _ (by decide +kernel)) ggX3_make_X3_findGoal
theorem dX3_make_0 : decode cX3_make 0 = .ok (.bipush 60, 2) := by decide +kernel
theorem dX3_make_2 : decode cX3_make 2 = .ok (.aload_n 1, 1) := by decide +kernel
theorem dX3_make_3 : decode cX3_make 3 = .ok (.getfield 22, 3) := by decide +kernel
theorem dX3_make_6 : decode cX3_make 6 = .ok (.imul, 1) := by decide +kernel
theorem dX3_make_7 : decode cX3_make 7 = .ok (.istore_n 2, 1) := by decide +kernel
theorem dX3_make_8 : decode cX3_make 8 = .ok (.iconst 0, 1) := by decide +kernel
theorem dX3_make_9 : decode cX3_make 9 = .ok (.istore_n 3, 1) := by decide +kernel
theorem dX3_make_10 : decode cX3_make 10 = .ok (.iload_n 3, 1) := by decide +kernel
theorem dX3_make_11 : decode cX3_make 11 = .ok (.aload_n 1, 1) := by decide +kernel
theorem dX3_make_12 : decode cX3_make 12 = .ok (.getfield 28, 3) := by decide +kernel
theorem dX3_make_15 : decode cX3_make 15 = .ok (.if_icmp .ge 18, 3) := by decide +kernel
theorem dX3_make_18 : decode cX3_make 18 = .ok (.iload_n 2, 1) := by decide +kernel
theorem dX3_make_19 : decode cX3_make 19 = .ok (.aload_n 1, 1) := by decide +kernel
theorem dX3_make_20 : decode cX3_make 20 = .ok (.getfield 31, 3) := by decide +kernel
theorem dX3_make_23 : decode cX3_make 23 = .ok (.iload_n 3, 1) := by decide +kernel
theorem dX3_make_24 : decode cX3_make 24 = .ok (.iaload, 1) := by decide +kernel
theorem dX3_make_25 : decode cX3_make 25 = .ok (.isub, 1) := by decide +kernel
theorem dX3_make_26 : decode cX3_make 26 = .ok (.istore_n 2, 1) := by decide +kernel
theorem dX3_make_27 : decode cX3_make 27 = .ok (.iinc 3 1, 3) := by decide +kernel
theorem dX3_make_30 : decode cX3_make 30 = .ok (.goto (-20), 3) := by decide +kernel
theorem dX3_make_33 : decode cX3_make 33 = .ok (.aload_n 1, 1) := by decide +kernel
theorem dX3_make_34 : decode cX3_make 34 = .ok (.getfield 28, 3) := by decide +kernel
theorem dX3_make_37 : decode cX3_make 37 = .ok (.ifCond .eq 7, 3) := by decide +kernel
theorem dX3_make_40 : decode cX3_make 40 = .ok (.iload_n 2, 1) := by decide +kernel
theorem dX3_make_41 : decode cX3_make 41 = .ok (.ifCond .ge 5, 3) := by decide +kernel
theorem dX3_make_44 : decode cX3_make 44 = .ok (.iconst 0, 1) := by decide +kernel
theorem dX3_make_45 : decode cX3_make 45 = .ok (.ireturn, 1) := by decide +kernel
theorem dX3_make_46 : decode cX3_make 46 = .ok (.aload_n 0, 1) := by decide +kernel
theorem dX3_make_47 : decode cX3_make 47 = .ok (.aload_n 1, 1) := by decide +kernel
theorem dX3_make_48 : decode cX3_make 48 = .ok (.getfield 28, 3) := by decide +kernel
theorem dX3_make_51 : decode cX3_make 51 = .ok (.putfield 35, 3) := by decide +kernel
theorem dX3_make_54 : decode cX3_make 54 = .ok (.aload_n 0, 1) := by decide +kernel
theorem dX3_make_55 : decode cX3_make 55 = .ok (.aload_n 1, 1) := by decide +kernel
theorem dX3_make_56 : decode cX3_make 56 = .ok (.iload_n 2, 1) := by decide +kernel
theorem dX3_make_57 : decode cX3_make 57 = .ok (.invokevirtual 36, 3) := by decide +kernel
theorem dX3_make_60 : decode cX3_make 60 = .ok (.aload_n 0, 1) := by decide +kernel
theorem dX3_make_61 : decode cX3_make 61 = .ok (.ldc2_w 40, 3) := by decide +kernel
theorem dX3_make_64 : decode cX3_make 64 = .ok (.aload_n 0, 1) := by decide +kernel
theorem dX3_make_65 : decode cX3_make 65 = .ok (.getfield 9, 3) := by decide +kernel
theorem dX3_make_68 : decode cX3_make 68 = .ok (.lmul, 1) := by decide +kernel
theorem dX3_make_69 : decode cX3_make 69 = .ok (.putfield 15, 3) := by decide +kernel
theorem dX3_make_72 : decode cX3_make 72 = .ok (.iconst 0, 1) := by decide +kernel
theorem dX3_make_73 : decode cX3_make 73 = .ok (.istore_n 3, 1) := by decide +kernel
theorem dX3_make_74 : decode cX3_make 74 = .ok (.iload_n 3, 1) := by decide +kernel
theorem dX3_make_75 : decode cX3_make 75 = .ok (.aload_n 0, 1) := by decide +kernel
theorem dX3_make_76 : decode cX3_make 76 = .ok (.getfield 35, 3) := by decide +kernel
theorem dX3_make_79 : decode cX3_make 79 = .ok (.if_icmp .ge 60, 3) := by decide +kernel
theorem dX3_make_82 : decode cX3_make 82 = .ok (.lconst 0, 1) := by decide +kernel
theorem dX3_make_83 : decode cX3_make 83 = .ok (.aload_n 1, 1) := by decide +kernel
theorem dX3_make_84 : decode cX3_make 84 = .ok (.iload_n 3, 1) := by decide +kernel
theorem dX3_make_85 : decode cX3_make 85 = .ok (.invokestatic 42, 3) := by decide +kernel
theorem dX3_make_88 : decode cX3_make 88 = .ok (.aload_n 0, 1) := by decide +kernel
theorem dX3_make_89 : decode cX3_make 89 = .ok (.getfield 9, 3) := by decide +kernel
theorem dX3_make_92 : decode cX3_make 92 = .ok (.lmul, 1) := by decide +kernel
theorem dX3_make_93 : decode cX3_make 93 = .ok (.aload_n 0, 1) := by decide +kernel
theorem dX3_make_94 : decode cX3_make 94 = .ok (.getfield 46, 3) := by decide +kernel
theorem dX3_make_97 : decode cX3_make 97 = .ok (.lsub, 1) := by decide +kernel
theorem dX3_make_98 : decode cX3_make 98 = .ok (.invokestatic 49, 3) := by decide +kernel
theorem dX3_make_101 : decode cX3_make 101 = .ok (.lstore 4, 2) := by decide +kernel
theorem dX3_make_103 : decode cX3_make 103 = .ok (.aload_n 0, 1) := by decide +kernel
theorem dX3_make_104 : decode cX3_make 104 = .ok (.getfield 18, 3) := by decide +kernel
theorem dX3_make_107 : decode cX3_make 107 = .ok (.iload_n 3, 1) := by decide +kernel
theorem dX3_make_108 : decode cX3_make 108 = .ok (.aload_n 1, 1) := by decide +kernel
theorem dX3_make_109 : decode cX3_make 109 = .ok (.getfield 31, 3) := by decide +kernel
theorem dX3_make_112 : decode cX3_make 112 = .ok (.iload_n 3, 1) := by decide +kernel
theorem dX3_make_113 : decode cX3_make 113 = .ok (.iaload, 1) := by decide +kernel
theorem dX3_make_114 : decode cX3_make 114 = .ok (.bipush 60, 2) := by decide +kernel
theorem dX3_make_116 : decode cX3_make 116 = .ok (.imul, 1) := by decide +kernel
theorem dX3_make_117 : decode cX3_make 117 = .ok (.i2l, 1) := by decide +kernel
theorem dX3_make_118 : decode cX3_make 118 = .ok (.aload_n 0, 1) := by decide +kernel
theorem dX3_make_119 : decode cX3_make 119 = .ok (.getfield 9, 3) := by decide +kernel
theorem dX3_make_122 : decode cX3_make 122 = .ok (.lmul, 1) := by decide +kernel
theorem dX3_make_123 : decode cX3_make 123 = .ok (.aload_n 1, 1) := by decide +kernel
theorem dX3_make_124 : decode cX3_make 124 = .ok (.iload_n 3, 1) := by decide +kernel
theorem dX3_make_125 : decode cX3_make 125 = .ok (.invokestatic 55, 3) := by decide +kernel
theorem dX3_make_128 : decode cX3_make 128 = .ok (.lload 4, 2) := by decide +kernel
theorem dX3_make_130 : decode cX3_make 130 = .ok (.lmul, 1) := by decide +kernel
theorem dX3_make_131 : decode cX3_make 131 = .ok (.ladd, 1) := by decide +kernel
theorem dX3_make_132 : decode cX3_make 132 = .ok (.lastore, 1) := by decide +kernel
theorem dX3_make_133 : decode cX3_make 133 = .ok (.iinc 3 1, 3) := by decide +kernel
theorem dX3_make_136 : decode cX3_make 136 = .ok (.goto (-62), 3) := by decide +kernel
theorem dX3_make_139 : decode cX3_make 139 = .ok (.aload_n 0, 1) := by decide +kernel
theorem dX3_make_140 : decode cX3_make 140 = .ok (.aload_n 0, 1) := by decide +kernel
theorem dX3_make_141 : decode cX3_make 141 = .ok (.aload_n 1, 1) := by decide +kernel
theorem dX3_make_142 : decode cX3_make 142 = .ok (.invokevirtual 58, 3) := by decide +kernel
theorem dX3_make_145 : decode cX3_make 145 = .ok (.putfield 62, 3) := by decide +kernel
theorem dX3_make_148 : decode cX3_make 148 = .ok (.iconst 1, 1) := by decide +kernel
theorem dX3_make_149 : decode cX3_make 149 = .ok (.ireturn, 1) := by decide +kernel
theorem dX3_keeperParts_0 : decode cX3_keeperParts 0 = .ok (.aload_n 1, 1) := by decide +kernel
theorem dX3_keeperParts_1 : decode cX3_keeperParts 1 = .ok (.getfield 65, 3) := by decide +kernel
theorem dX3_keeperParts_4 : decode cX3_keeperParts 4 = .ok (.iload_n 2, 1) := by decide +kernel
theorem dX3_keeperParts_5 : decode cX3_keeperParts 5 = .ok (.iaload, 1) := by decide +kernel
theorem dX3_keeperParts_6 : decode cX3_keeperParts 6 = .ok (.i2l, 1) := by decide +kernel
theorem dX3_keeperParts_7 : decode cX3_keeperParts 7 = .ok (.aload_n 0, 1) := by decide +kernel
theorem dX3_keeperParts_8 : decode cX3_keeperParts 8 = .ok (.getfield 15, 3) := by decide +kernel
theorem dX3_keeperParts_11 : decode cX3_keeperParts 11 = .ok (.lmul, 1) := by decide +kernel
theorem dX3_keeperParts_12 : decode cX3_keeperParts 12 = .ok (.aload_n 1, 1) := by decide +kernel
theorem dX3_keeperParts_13 : decode cX3_keeperParts 13 = .ok (.getfield 68, 3) := by decide +kernel
theorem dX3_keeperParts_16 : decode cX3_keeperParts 16 = .ok (.iload_n 2, 1) := by decide +kernel
theorem dX3_keeperParts_17 : decode cX3_keeperParts 17 = .ok (.iaload, 1) := by decide +kernel
theorem dX3_keeperParts_18 : decode cX3_keeperParts 18 = .ok (.aload_n 1, 1) := by decide +kernel
theorem dX3_keeperParts_19 : decode cX3_keeperParts 19 = .ok (.getfield 65, 3) := by decide +kernel
theorem dX3_keeperParts_22 : decode cX3_keeperParts 22 = .ok (.iload_n 2, 1) := by decide +kernel
theorem dX3_keeperParts_23 : decode cX3_keeperParts 23 = .ok (.iaload, 1) := by decide +kernel
theorem dX3_keeperParts_24 : decode cX3_keeperParts 24 = .ok (.isub, 1) := by decide +kernel
theorem dX3_keeperParts_25 : decode cX3_keeperParts 25 = .ok (.i2l, 1) := by decide +kernel
theorem dX3_keeperParts_26 : decode cX3_keeperParts 26 = .ok (.aload_n 0, 1) := by decide +kernel
theorem dX3_keeperParts_27 : decode cX3_keeperParts 27 = .ok (.getfield 18, 3) := by decide +kernel
theorem dX3_keeperParts_30 : decode cX3_keeperParts 30 = .ok (.iload_n 2, 1) := by decide +kernel
theorem dX3_keeperParts_31 : decode cX3_keeperParts 31 = .ok (.laload, 1) := by decide +kernel
theorem dX3_keeperParts_32 : decode cX3_keeperParts 32 = .ok (.lmul, 1) := by decide +kernel
theorem dX3_keeperParts_33 : decode cX3_keeperParts 33 = .ok (.ladd, 1) := by decide +kernel
theorem dX3_keeperParts_34 : decode cX3_keeperParts 34 = .ok (.lreturn, 1) := by decide +kernel
theorem dX3_peak_0 : decode cX3_peak 0 = .ok (.bipush 60, 2) := by decide +kernel
theorem dX3_peak_2 : decode cX3_peak 2 = .ok (.aload_n 0, 1) := by decide +kernel
theorem dX3_peak_3 : decode cX3_peak 3 = .ok (.getfield 71, 3) := by decide +kernel
theorem dX3_peak_6 : decode cX3_peak 6 = .ok (.iload_n 1, 1) := by decide +kernel
theorem dX3_peak_7 : decode cX3_peak 7 = .ok (.iaload, 1) := by decide +kernel
theorem dX3_peak_8 : decode cX3_peak 8 = .ok (.imul, 1) := by decide +kernel
theorem dX3_peak_9 : decode cX3_peak 9 = .ok (.aload_n 0, 1) := by decide +kernel
theorem dX3_peak_10 : decode cX3_peak 10 = .ok (.getfield 74, 3) := by decide +kernel
theorem dX3_peak_13 : decode cX3_peak 13 = .ok (.iload_n 1, 1) := by decide +kernel
theorem dX3_peak_14 : decode cX3_peak 14 = .ok (.iaload, 1) := by decide +kernel
theorem dX3_peak_15 : decode cX3_peak 15 = .ok (.aload_n 0, 1) := by decide +kernel
theorem dX3_peak_16 : decode cX3_peak 16 = .ok (.getfield 31, 3) := by decide +kernel
theorem dX3_peak_19 : decode cX3_peak 19 = .ok (.iload_n 1, 1) := by decide +kernel
theorem dX3_peak_20 : decode cX3_peak 20 = .ok (.iaload, 1) := by decide +kernel
theorem dX3_peak_21 : decode cX3_peak 21 = .ok (.imul, 1) := by decide +kernel
theorem dX3_peak_22 : decode cX3_peak 22 = .ok (.isub, 1) := by decide +kernel
theorem dX3_peak_23 : decode cX3_peak 23 = .ok (.i2l, 1) := by decide +kernel
theorem dX3_peak_24 : decode cX3_peak 24 = .ok (.lreturn, 1) := by decide +kernel
theorem dX3_slope_0 : decode cX3_slope 0 = .ok (.aload_n 0, 1) := by decide +kernel
theorem dX3_slope_1 : decode cX3_slope 1 = .ok (.getfield 74, 3) := by decide +kernel
theorem dX3_slope_4 : decode cX3_slope 4 = .ok (.iload_n 1, 1) := by decide +kernel
theorem dX3_slope_5 : decode cX3_slope 5 = .ok (.iaload, 1) := by decide +kernel
theorem dX3_slope_6 : decode cX3_slope 6 = .ok (.istore_n 2, 1) := by decide +kernel
theorem dX3_slope_7 : decode cX3_slope 7 = .ok (.iload_n 2, 1) := by decide +kernel
theorem dX3_slope_8 : decode cX3_slope 8 = .ok (.ifCond .gt 7, 3) := by decide +kernel
theorem dX3_slope_11 : decode cX3_slope 11 = .ok (.lconst 0, 1) := by decide +kernel
theorem dX3_slope_12 : decode cX3_slope 12 = .ok (.goto 8, 3) := by decide +kernel
theorem dX3_slope_15 : decode cX3_slope 15 = .ok (.bipush 60, 2) := by decide +kernel
theorem dX3_slope_17 : decode cX3_slope 17 = .ok (.iload_n 2, 1) := by decide +kernel
theorem dX3_slope_18 : decode cX3_slope 18 = .ok (.idiv, 1) := by decide +kernel
theorem dX3_slope_19 : decode cX3_slope 19 = .ok (.i2l, 1) := by decide +kernel
theorem dX3_slope_20 : decode cX3_slope 20 = .ok (.lreturn, 1) := by decide +kernel
set_option maxRecDepth 20000 in
theorem ggX3_findLevel_X3_peak : GoodIn wsX3_findLevel wsX3_peak := goodIn_r _ [14, 1, 2, 15, 24, 25, 26, 27, 28, 29, 30, 31, 32, 33] (by decide +kernel) (by decide +kernel)
set_option maxRecDepth 20000 in
theorem gX3_findLevel_X3_peak : GoodIn wsX3_findLevel (va_wsS RX3 42 yX3_peak wsX3_peak) := goodIn_app (goodIn_of _ (by decide +kernel)) ggX3_findLevel_X3_peak
set_option maxRecDepth 20000 in
theorem ggX3_findLevel_X3_raiseLevel : GoodIn wsX3_findLevel wsX3_raiseLevel := goodIn_r _ [19, 20, 6, 5, 4, 11, 12, 13, 14, 1, 2, 15, 21, 22, 23, 24, 25, 26, 27, 28, 29, 30, 31, 32, 33, 34, 35, 36, 37, 38, 39] (by decide +kernel) (by decide +kernel)
set_option maxRecDepth 20000 in
theorem gX3_findLevel_X3_raiseLevel : GoodIn wsX3_findLevel (wsV RX3 80 RX3 yX3_raiseLevel wsX3_raiseLevel) := goodIn_app (goodIn_of _ (by decide +kernel)) ggX3_findLevel_X3_raiseLevel
theorem dX3_findLevel_0 : decode cX3_findLevel 0 = .ok (.aload_n 0, 1) := by decide +kernel
theorem dX3_findLevel_1 : decode cX3_findLevel 1 = .ok (.bipush 60, 2) := by decide +kernel
theorem dX3_findLevel_3 : decode cX3_findLevel 3 = .ok (.aload_n 1, 1) := by decide +kernel
theorem dX3_findLevel_4 : decode cX3_findLevel 4 = .ok (.getfield 71, 3) := by decide +kernel
theorem dX3_findLevel_7 : decode cX3_findLevel 7 = .ok (.iconst 0, 1) := by decide +kernel
theorem dX3_findLevel_8 : decode cX3_findLevel 8 = .ok (.iaload, 1) := by decide +kernel
theorem dX3_findLevel_9 : decode cX3_findLevel 9 = .ok (.imul, 1) := by decide +kernel
theorem dX3_findLevel_10 : decode cX3_findLevel 10 = .ok (.aload_n 1, 1) := by decide +kernel
theorem dX3_findLevel_11 : decode cX3_findLevel 11 = .ok (.getfield 74, 3) := by decide +kernel
theorem dX3_findLevel_14 : decode cX3_findLevel 14 = .ok (.iconst 0, 1) := by decide +kernel
theorem dX3_findLevel_15 : decode cX3_findLevel 15 = .ok (.iaload, 1) := by decide +kernel
theorem dX3_findLevel_16 : decode cX3_findLevel 16 = .ok (.aload_n 1, 1) := by decide +kernel
theorem dX3_findLevel_17 : decode cX3_findLevel 17 = .ok (.getfield 77, 3) := by decide +kernel
theorem dX3_findLevel_20 : decode cX3_findLevel 20 = .ok (.iconst 0, 1) := by decide +kernel
theorem dX3_findLevel_21 : decode cX3_findLevel 21 = .ok (.iaload, 1) := by decide +kernel
theorem dX3_findLevel_22 : decode cX3_findLevel 22 = .ok (.imul, 1) := by decide +kernel
theorem dX3_findLevel_23 : decode cX3_findLevel 23 = .ok (.isub, 1) := by decide +kernel
theorem dX3_findLevel_24 : decode cX3_findLevel 24 = .ok (.i2l, 1) := by decide +kernel
theorem dX3_findLevel_25 : decode cX3_findLevel 25 = .ok (.putfield 46, 3) := by decide +kernel
theorem dX3_findLevel_28 : decode cX3_findLevel 28 = .ok (.aload_n 0, 1) := by decide +kernel
theorem dX3_findLevel_29 : decode cX3_findLevel 29 = .ok (.lconst 1, 1) := by decide +kernel
theorem dX3_findLevel_30 : decode cX3_findLevel 30 = .ok (.putfield 9, 3) := by decide +kernel
theorem dX3_findLevel_33 : decode cX3_findLevel 33 = .ok (.iconst 1, 1) := by decide +kernel
theorem dX3_findLevel_34 : decode cX3_findLevel 34 = .ok (.istore_n 3, 1) := by decide +kernel
theorem dX3_findLevel_35 : decode cX3_findLevel 35 = .ok (.iload_n 3, 1) := by decide +kernel
theorem dX3_findLevel_36 : decode cX3_findLevel 36 = .ok (.aload_n 1, 1) := by decide +kernel
theorem dX3_findLevel_37 : decode cX3_findLevel 37 = .ok (.getfield 28, 3) := by decide +kernel
theorem dX3_findLevel_40 : decode cX3_findLevel 40 = .ok (.if_icmp .ge 48, 3) := by decide +kernel
theorem dX3_findLevel_43 : decode cX3_findLevel 43 = .ok (.bipush 60, 2) := by decide +kernel
theorem dX3_findLevel_45 : decode cX3_findLevel 45 = .ok (.aload_n 1, 1) := by decide +kernel
theorem dX3_findLevel_46 : decode cX3_findLevel 46 = .ok (.getfield 71, 3) := by decide +kernel
theorem dX3_findLevel_49 : decode cX3_findLevel 49 = .ok (.iload_n 3, 1) := by decide +kernel
theorem dX3_findLevel_50 : decode cX3_findLevel 50 = .ok (.iaload, 1) := by decide +kernel
theorem dX3_findLevel_51 : decode cX3_findLevel 51 = .ok (.imul, 1) := by decide +kernel
theorem dX3_findLevel_52 : decode cX3_findLevel 52 = .ok (.aload_n 1, 1) := by decide +kernel
theorem dX3_findLevel_53 : decode cX3_findLevel 53 = .ok (.getfield 74, 3) := by decide +kernel
theorem dX3_findLevel_56 : decode cX3_findLevel 56 = .ok (.iload_n 3, 1) := by decide +kernel
theorem dX3_findLevel_57 : decode cX3_findLevel 57 = .ok (.iaload, 1) := by decide +kernel
theorem dX3_findLevel_58 : decode cX3_findLevel 58 = .ok (.aload_n 1, 1) := by decide +kernel
theorem dX3_findLevel_59 : decode cX3_findLevel 59 = .ok (.getfield 77, 3) := by decide +kernel
theorem dX3_findLevel_62 : decode cX3_findLevel 62 = .ok (.iload_n 3, 1) := by decide +kernel
theorem dX3_findLevel_63 : decode cX3_findLevel 63 = .ok (.iaload, 1) := by decide +kernel
theorem dX3_findLevel_64 : decode cX3_findLevel 64 = .ok (.imul, 1) := by decide +kernel
theorem dX3_findLevel_65 : decode cX3_findLevel 65 = .ok (.isub, 1) := by decide +kernel
theorem dX3_findLevel_66 : decode cX3_findLevel 66 = .ok (.i2l, 1) := by decide +kernel
theorem dX3_findLevel_67 : decode cX3_findLevel 67 = .ok (.lstore 4, 2) := by decide +kernel
theorem dX3_findLevel_69 : decode cX3_findLevel 69 = .ok (.aload_n 0, 1) := by decide +kernel
theorem dX3_findLevel_70 : decode cX3_findLevel 70 = .ok (.aload_n 0, 1) := by decide +kernel
theorem dX3_findLevel_71 : decode cX3_findLevel 71 = .ok (.getfield 46, 3) := by decide +kernel
theorem dX3_findLevel_74 : decode cX3_findLevel 74 = .ok (.lload 4, 2) := by decide +kernel
theorem dX3_findLevel_76 : decode cX3_findLevel 76 = .ok (.invokestatic 49, 3) := by decide +kernel
theorem dX3_findLevel_79 : decode cX3_findLevel 79 = .ok (.putfield 46, 3) := by decide +kernel
theorem dX3_findLevel_82 : decode cX3_findLevel 82 = .ok (.iinc 3 1, 3) := by decide +kernel
theorem dX3_findLevel_85 : decode cX3_findLevel 85 = .ok (.goto (-50), 3) := by decide +kernel
theorem dX3_findLevel_88 : decode cX3_findLevel 88 = .ok (.iconst 0, 1) := by decide +kernel
theorem dX3_findLevel_89 : decode cX3_findLevel 89 = .ok (.istore_n 3, 1) := by decide +kernel
theorem dX3_findLevel_90 : decode cX3_findLevel 90 = .ok (.iload_n 3, 1) := by decide +kernel
theorem dX3_findLevel_91 : decode cX3_findLevel 91 = .ok (.aload_n 1, 1) := by decide +kernel
theorem dX3_findLevel_92 : decode cX3_findLevel 92 = .ok (.getfield 28, 3) := by decide +kernel
theorem dX3_findLevel_95 : decode cX3_findLevel 95 = .ok (.if_icmp .ge 20, 3) := by decide +kernel
theorem dX3_findLevel_98 : decode cX3_findLevel 98 = .ok (.aload_n 0, 1) := by decide +kernel
theorem dX3_findLevel_99 : decode cX3_findLevel 99 = .ok (.aload_n 1, 1) := by decide +kernel
theorem dX3_findLevel_100 : decode cX3_findLevel 100 = .ok (.iload_n 2, 1) := by decide +kernel
theorem dX3_findLevel_101 : decode cX3_findLevel 101 = .ok (.aload_n 1, 1) := by decide +kernel
theorem dX3_findLevel_102 : decode cX3_findLevel 102 = .ok (.iload_n 3, 1) := by decide +kernel
theorem dX3_findLevel_103 : decode cX3_findLevel 103 = .ok (.invokestatic 42, 3) := by decide +kernel
theorem dX3_findLevel_106 : decode cX3_findLevel 106 = .ok (.invokevirtual 80, 3) := by decide +kernel
theorem dX3_findLevel_109 : decode cX3_findLevel 109 = .ok (.iinc 3 1, 3) := by decide +kernel
theorem dX3_findLevel_112 : decode cX3_findLevel 112 = .ok (.goto (-22), 3) := by decide +kernel
theorem dX3_findLevel_115 : decode cX3_findLevel 115 = .ok (.return_, 1) := by decide +kernel
set_option maxRecDepth 20000 in
theorem ggX3_raiseLevel_X3_peak : GoodIn wsX3_raiseLevel wsX3_peak := goodIn_r _ [8, 9, 10, 11, 15, 16, 17, 18, 19, 20, 21, 22, 23, 24] (by decide +kernel) (by decide +kernel)
set_option maxRecDepth 20000 in
theorem gX3_raiseLevel_X3_peak : GoodIn wsX3_raiseLevel (va_wsS RX3 42 yX3_peak wsX3_peak) := goodIn_app (goodIn_of _ (by decide +kernel)) ggX3_raiseLevel_X3_peak
set_option maxRecDepth 20000 in
theorem ggX3_raiseLevel_X3_slope : GoodIn wsX3_raiseLevel wsX3_slope := goodIn_r _ [14, 10, 15, 16, 17, 18, 19, 20, 21, 22, 23, 24] (by decide +kernel) (by decide +kernel)
set_option maxRecDepth 20000 in
theorem gX3_raiseLevel_X3_slope : GoodIn wsX3_raiseLevel (va_wsS RX3 55 yX3_slope wsX3_slope) := goodIn_app (goodIn_of _ (by decide +kernel)) ggX3_raiseLevel_X3_slope
theorem dX3_raiseLevel_0 : decode cX3_raiseLevel 0 = .ok (.ldc2_w 84, 3) := by decide +kernel
theorem dX3_raiseLevel_3 : decode cX3_raiseLevel 3 = .ok (.iload_n 2, 1) := by decide +kernel
theorem dX3_raiseLevel_4 : decode cX3_raiseLevel 4 = .ok (.i2l, 1) := by decide +kernel
theorem dX3_raiseLevel_5 : decode cX3_raiseLevel 5 = .ok (.lmul, 1) := by decide +kernel
theorem dX3_raiseLevel_6 : decode cX3_raiseLevel 6 = .ok (.lstore 5, 2) := by decide +kernel
theorem dX3_raiseLevel_8 : decode cX3_raiseLevel 8 = .ok (.lconst 0, 1) := by decide +kernel
theorem dX3_raiseLevel_9 : decode cX3_raiseLevel 9 = .ok (.lstore 7, 2) := by decide +kernel
theorem dX3_raiseLevel_11 : decode cX3_raiseLevel 11 = .ok (.iconst 0, 1) := by decide +kernel
theorem dX3_raiseLevel_12 : decode cX3_raiseLevel 12 = .ok (.istore 9, 2) := by decide +kernel
theorem dX3_raiseLevel_14 : decode cX3_raiseLevel 14 = .ok (.iload 9, 2) := by decide +kernel
theorem dX3_raiseLevel_16 : decode cX3_raiseLevel 16 = .ok (.aload_n 1, 1) := by decide +kernel
theorem dX3_raiseLevel_17 : decode cX3_raiseLevel 17 = .ok (.getfield 28, 3) := by decide +kernel
theorem dX3_raiseLevel_20 : decode cX3_raiseLevel 20 = .ok (.if_icmp .ge 49, 3) := by decide +kernel
theorem dX3_raiseLevel_23 : decode cX3_raiseLevel 23 = .ok (.aload_n 1, 1) := by decide +kernel
theorem dX3_raiseLevel_24 : decode cX3_raiseLevel 24 = .ok (.iload 9, 2) := by decide +kernel
theorem dX3_raiseLevel_26 : decode cX3_raiseLevel 26 = .ok (.invokestatic 42, 3) := by decide +kernel
theorem dX3_raiseLevel_29 : decode cX3_raiseLevel 29 = .ok (.lstore 10, 2) := by decide +kernel
theorem dX3_raiseLevel_31 : decode cX3_raiseLevel 31 = .ok (.lload 10, 2) := by decide +kernel
theorem dX3_raiseLevel_33 : decode cX3_raiseLevel 33 = .ok (.lload_n 3, 1) := by decide +kernel
theorem dX3_raiseLevel_34 : decode cX3_raiseLevel 34 = .ok (.lcmp, 1) := by decide +kernel
theorem dX3_raiseLevel_35 : decode cX3_raiseLevel 35 = .ok (.ifCond .lt 28, 3) := by decide +kernel
theorem dX3_raiseLevel_38 : decode cX3_raiseLevel 38 = .ok (.lload 5, 2) := by decide +kernel
theorem dX3_raiseLevel_40 : decode cX3_raiseLevel 40 = .ok (.aload_n 1, 1) := by decide +kernel
theorem dX3_raiseLevel_41 : decode cX3_raiseLevel 41 = .ok (.iload 9, 2) := by decide +kernel
theorem dX3_raiseLevel_43 : decode cX3_raiseLevel 43 = .ok (.invokestatic 55, 3) := by decide +kernel
theorem dX3_raiseLevel_46 : decode cX3_raiseLevel 46 = .ok (.lload 10, 2) := by decide +kernel
theorem dX3_raiseLevel_48 : decode cX3_raiseLevel 48 = .ok (.lmul, 1) := by decide +kernel
theorem dX3_raiseLevel_49 : decode cX3_raiseLevel 49 = .ok (.ladd, 1) := by decide +kernel
theorem dX3_raiseLevel_50 : decode cX3_raiseLevel 50 = .ok (.lstore 5, 2) := by decide +kernel
theorem dX3_raiseLevel_52 : decode cX3_raiseLevel 52 = .ok (.lload 7, 2) := by decide +kernel
theorem dX3_raiseLevel_54 : decode cX3_raiseLevel 54 = .ok (.aload_n 1, 1) := by decide +kernel
theorem dX3_raiseLevel_55 : decode cX3_raiseLevel 55 = .ok (.iload 9, 2) := by decide +kernel
theorem dX3_raiseLevel_57 : decode cX3_raiseLevel 57 = .ok (.invokestatic 55, 3) := by decide +kernel
theorem dX3_raiseLevel_60 : decode cX3_raiseLevel 60 = .ok (.ladd, 1) := by decide +kernel
theorem dX3_raiseLevel_61 : decode cX3_raiseLevel 61 = .ok (.lstore 7, 2) := by decide +kernel
theorem dX3_raiseLevel_63 : decode cX3_raiseLevel 63 = .ok (.iinc 9 1, 3) := by decide +kernel
theorem dX3_raiseLevel_66 : decode cX3_raiseLevel 66 = .ok (.goto (-52), 3) := by decide +kernel
theorem dX3_raiseLevel_69 : decode cX3_raiseLevel 69 = .ok (.lload 7, 2) := by decide +kernel
theorem dX3_raiseLevel_71 : decode cX3_raiseLevel 71 = .ok (.lconst 0, 1) := by decide +kernel
theorem dX3_raiseLevel_72 : decode cX3_raiseLevel 72 = .ok (.lcmp, 1) := by decide +kernel
theorem dX3_raiseLevel_73 : decode cX3_raiseLevel 73 = .ok (.ifCond .le 33, 3) := by decide +kernel
theorem dX3_raiseLevel_76 : decode cX3_raiseLevel 76 = .ok (.lload 5, 2) := by decide +kernel
theorem dX3_raiseLevel_78 : decode cX3_raiseLevel 78 = .ok (.aload_n 0, 1) := by decide +kernel
theorem dX3_raiseLevel_79 : decode cX3_raiseLevel 79 = .ok (.getfield 9, 3) := by decide +kernel
theorem dX3_raiseLevel_82 : decode cX3_raiseLevel 82 = .ok (.lmul, 1) := by decide +kernel
theorem dX3_raiseLevel_83 : decode cX3_raiseLevel 83 = .ok (.aload_n 0, 1) := by decide +kernel
theorem dX3_raiseLevel_84 : decode cX3_raiseLevel 84 = .ok (.getfield 46, 3) := by decide +kernel
theorem dX3_raiseLevel_87 : decode cX3_raiseLevel 87 = .ok (.lload 7, 2) := by decide +kernel
theorem dX3_raiseLevel_89 : decode cX3_raiseLevel 89 = .ok (.lmul, 1) := by decide +kernel
theorem dX3_raiseLevel_90 : decode cX3_raiseLevel 90 = .ok (.lcmp, 1) := by decide +kernel
theorem dX3_raiseLevel_91 : decode cX3_raiseLevel 91 = .ok (.ifCond .le 15, 3) := by decide +kernel
theorem dX3_raiseLevel_94 : decode cX3_raiseLevel 94 = .ok (.aload_n 0, 1) := by decide +kernel
theorem dX3_raiseLevel_95 : decode cX3_raiseLevel 95 = .ok (.lload 5, 2) := by decide +kernel
theorem dX3_raiseLevel_97 : decode cX3_raiseLevel 97 = .ok (.putfield 46, 3) := by decide +kernel
theorem dX3_raiseLevel_100 : decode cX3_raiseLevel 100 = .ok (.aload_n 0, 1) := by decide +kernel
theorem dX3_raiseLevel_101 : decode cX3_raiseLevel 101 = .ok (.lload 7, 2) := by decide +kernel
theorem dX3_raiseLevel_103 : decode cX3_raiseLevel 103 = .ok (.putfield 9, 3) := by decide +kernel
theorem dX3_raiseLevel_106 : decode cX3_raiseLevel 106 = .ok (.return_, 1) := by decide +kernel
set_option maxRecDepth 20000 in
theorem ggX3_findGoal_X3_peak : GoodIn wsX3_findGoal wsX3_peak := goodIn_r _ [11, 12, 13, 14, 29, 30, 31, 32, 33, 34, 35, 36, 37, 38] (by decide +kernel) (by decide +kernel)
set_option maxRecDepth 20000 in
theorem gX3_findGoal_X3_peak : GoodIn wsX3_findGoal (va_wsS RX3 42 yX3_peak wsX3_peak) := goodIn_app (goodIn_of _ (by decide +kernel)) ggX3_findGoal_X3_peak
set_option maxRecDepth 20000 in
theorem ggX3_findGoal_X3_keeperParts : GoodIn wsX3_findGoal wsX3_keeperParts := goodIn_r _ [18, 19, 20, 21, 22, 29, 30, 31, 32, 33, 34, 35, 36, 37, 38, 23, 24, 25, 26, 27, 28] (by decide +kernel) (by decide +kernel)
set_option maxRecDepth 20000 in
theorem gX3_findGoal_X3_keeperParts : GoodIn wsX3_findGoal (wsV RX3 86 RX3 yX3_keeperParts wsX3_keeperParts) := goodIn_app (goodIn_of _ (by decide +kernel)) ggX3_findGoal_X3_keeperParts
theorem dX3_findGoal_0 : decode cX3_findGoal 0 = .ok (.iconst (-1), 1) := by decide +kernel
theorem dX3_findGoal_1 : decode cX3_findGoal 1 = .ok (.istore_n 2, 1) := by decide +kernel
theorem dX3_findGoal_2 : decode cX3_findGoal 2 = .ok (.iconst 0, 1) := by decide +kernel
theorem dX3_findGoal_3 : decode cX3_findGoal 3 = .ok (.istore_n 3, 1) := by decide +kernel
theorem dX3_findGoal_4 : decode cX3_findGoal 4 = .ok (.iload_n 3, 1) := by decide +kernel
theorem dX3_findGoal_5 : decode cX3_findGoal 5 = .ok (.aload_n 0, 1) := by decide +kernel
theorem dX3_findGoal_6 : decode cX3_findGoal 6 = .ok (.getfield 35, 3) := by decide +kernel
theorem dX3_findGoal_9 : decode cX3_findGoal 9 = .ok (.if_icmp .ge 61, 3) := by decide +kernel
theorem dX3_findGoal_12 : decode cX3_findGoal 12 = .ok (.aload_n 1, 1) := by decide +kernel
theorem dX3_findGoal_13 : decode cX3_findGoal 13 = .ok (.iload_n 3, 1) := by decide +kernel
theorem dX3_findGoal_14 : decode cX3_findGoal 14 = .ok (.invokestatic 42, 3) := by decide +kernel
theorem dX3_findGoal_17 : decode cX3_findGoal 17 = .ok (.aload_n 0, 1) := by decide +kernel
theorem dX3_findGoal_18 : decode cX3_findGoal 18 = .ok (.getfield 9, 3) := by decide +kernel
theorem dX3_findGoal_21 : decode cX3_findGoal 21 = .ok (.lmul, 1) := by decide +kernel
theorem dX3_findGoal_22 : decode cX3_findGoal 22 = .ok (.aload_n 0, 1) := by decide +kernel
theorem dX3_findGoal_23 : decode cX3_findGoal 23 = .ok (.getfield 46, 3) := by decide +kernel
theorem dX3_findGoal_26 : decode cX3_findGoal 26 = .ok (.lcmp, 1) := by decide +kernel
theorem dX3_findGoal_27 : decode cX3_findGoal 27 = .ok (.ifCond .lt 7, 3) := by decide +kernel
theorem dX3_findGoal_30 : decode cX3_findGoal 30 = .ok (.iconst 1, 1) := by decide +kernel
theorem dX3_findGoal_31 : decode cX3_findGoal 31 = .ok (.goto 4, 3) := by decide +kernel
theorem dX3_findGoal_34 : decode cX3_findGoal 34 = .ok (.iconst 0, 1) := by decide +kernel
theorem dX3_findGoal_35 : decode cX3_findGoal 35 = .ok (.istore 4, 2) := by decide +kernel
theorem dX3_findGoal_37 : decode cX3_findGoal 37 = .ok (.iload 4, 2) := by decide +kernel
theorem dX3_findGoal_39 : decode cX3_findGoal 39 = .ok (.ifCond .eq 25, 3) := by decide +kernel
theorem dX3_findGoal_42 : decode cX3_findGoal 42 = .ok (.iload_n 2, 1) := by decide +kernel
theorem dX3_findGoal_43 : decode cX3_findGoal 43 = .ok (.ifCond .lt 19, 3) := by decide +kernel
theorem dX3_findGoal_46 : decode cX3_findGoal 46 = .ok (.aload_n 0, 1) := by decide +kernel
theorem dX3_findGoal_47 : decode cX3_findGoal 47 = .ok (.aload_n 1, 1) := by decide +kernel
theorem dX3_findGoal_48 : decode cX3_findGoal 48 = .ok (.iload_n 3, 1) := by decide +kernel
theorem dX3_findGoal_49 : decode cX3_findGoal 49 = .ok (.invokevirtual 86, 3) := by decide +kernel
theorem dX3_findGoal_52 : decode cX3_findGoal 52 = .ok (.aload_n 0, 1) := by decide +kernel
theorem dX3_findGoal_53 : decode cX3_findGoal 53 = .ok (.aload_n 1, 1) := by decide +kernel
theorem dX3_findGoal_54 : decode cX3_findGoal 54 = .ok (.iload_n 2, 1) := by decide +kernel
theorem dX3_findGoal_55 : decode cX3_findGoal 55 = .ok (.invokevirtual 86, 3) := by decide +kernel
theorem dX3_findGoal_58 : decode cX3_findGoal 58 = .ok (.lcmp, 1) := by decide +kernel
theorem dX3_findGoal_59 : decode cX3_findGoal 59 = .ok (.ifCond .le 5, 3) := by decide +kernel
theorem dX3_findGoal_62 : decode cX3_findGoal 62 = .ok (.iload_n 3, 1) := by decide +kernel
theorem dX3_findGoal_63 : decode cX3_findGoal 63 = .ok (.istore_n 2, 1) := by decide +kernel
theorem dX3_findGoal_64 : decode cX3_findGoal 64 = .ok (.iinc 3 1, 3) := by decide +kernel
theorem dX3_findGoal_67 : decode cX3_findGoal 67 = .ok (.goto (-63), 3) := by decide +kernel
theorem dX3_findGoal_70 : decode cX3_findGoal 70 = .ok (.iload_n 2, 1) := by decide +kernel
theorem dX3_findGoal_71 : decode cX3_findGoal 71 = .ok (.iconst 0, 1) := by decide +kernel
theorem dX3_findGoal_72 : decode cX3_findGoal 72 = .ok (.invokestatic 89, 3) := by decide +kernel
theorem dX3_findGoal_75 : decode cX3_findGoal 75 = .ok (.ireturn, 1) := by decide +kernel
theorem dX4_init_0 : decode cX4_init 0 = .ok (.aload_n 0, 1) := by decide +kernel
theorem dX4_init_1 : decode cX4_init 1 = .ok (.invokespecial 3, 3) := by decide +kernel
theorem dX4_init_4 : decode cX4_init 4 = .ok (.aload_n 0, 1) := by decide +kernel
theorem dX4_init_5 : decode cX4_init 5 = .ok (.iconst 5, 1) := by decide +kernel
theorem dX4_init_6 : decode cX4_init 6 = .ok (.newarray .int, 2) := by decide +kernel
theorem dX4_init_8 : decode cX4_init 8 = .ok (.putfield 9, 3) := by decide +kernel
theorem dX4_init_11 : decode cX4_init 11 = .ok (.return_, 1) := by decide +kernel
theorem dX4_add_0 : decode cX4_add 0 = .ok (.aload_n 0, 1) := by decide +kernel
theorem dX4_add_1 : decode cX4_add 1 = .ok (.getfield 15, 3) := by decide +kernel
theorem dX4_add_4 : decode cX4_add 4 = .ok (.istore_n 2, 1) := by decide +kernel
theorem dX4_add_5 : decode cX4_add 5 = .ok (.aload_n 0, 1) := by decide +kernel
theorem dX4_add_6 : decode cX4_add 6 = .ok (.getfield 9, 3) := by decide +kernel
theorem dX4_add_9 : decode cX4_add 9 = .ok (.iload_n 2, 1) := by decide +kernel
theorem dX4_add_10 : decode cX4_add 10 = .ok (.iload_n 1, 1) := by decide +kernel
theorem dX4_add_11 : decode cX4_add 11 = .ok (.iastore, 1) := by decide +kernel
theorem dX4_add_12 : decode cX4_add 12 = .ok (.aload_n 0, 1) := by decide +kernel
theorem dX4_add_13 : decode cX4_add 13 = .ok (.dup, 1) := by decide +kernel
theorem dX4_add_14 : decode cX4_add 14 = .ok (.getfield 15, 3) := by decide +kernel
theorem dX4_add_17 : decode cX4_add 17 = .ok (.iconst 1, 1) := by decide +kernel
theorem dX4_add_18 : decode cX4_add 18 = .ok (.iadd, 1) := by decide +kernel
theorem dX4_add_19 : decode cX4_add 19 = .ok (.putfield 15, 3) := by decide +kernel
theorem dX4_add_22 : decode cX4_add 22 = .ok (.iload_n 2, 1) := by decide +kernel
theorem dX4_add_23 : decode cX4_add 23 = .ok (.ireturn, 1) := by decide +kernel
theorem dX4_copyFrom_0 : decode cX4_copyFrom 0 = .ok (.aload_n 0, 1) := by decide +kernel
theorem dX4_copyFrom_1 : decode cX4_copyFrom 1 = .ok (.aload_n 1, 1) := by decide +kernel
theorem dX4_copyFrom_2 : decode cX4_copyFrom 2 = .ok (.getfield 15, 3) := by decide +kernel
theorem dX4_copyFrom_5 : decode cX4_copyFrom 5 = .ok (.putfield 15, 3) := by decide +kernel
theorem dX4_copyFrom_8 : decode cX4_copyFrom 8 = .ok (.aload_n 1, 1) := by decide +kernel
theorem dX4_copyFrom_9 : decode cX4_copyFrom 9 = .ok (.getfield 9, 3) := by decide +kernel
theorem dX4_copyFrom_12 : decode cX4_copyFrom 12 = .ok (.iconst 0, 1) := by decide +kernel
theorem dX4_copyFrom_13 : decode cX4_copyFrom 13 = .ok (.aload_n 0, 1) := by decide +kernel
theorem dX4_copyFrom_14 : decode cX4_copyFrom 14 = .ok (.getfield 9, 3) := by decide +kernel
theorem dX4_copyFrom_17 : decode cX4_copyFrom 17 = .ok (.iconst 0, 1) := by decide +kernel
theorem dX4_copyFrom_18 : decode cX4_copyFrom 18 = .ok (.iconst 5, 1) := by decide +kernel
theorem dX4_copyFrom_19 : decode cX4_copyFrom 19 = .ok (.invokestatic 19, 3) := by decide +kernel
theorem dX4_copyFrom_22 : decode cX4_copyFrom 22 = .ok (.return_, 1) := by decide +kernel
theorem dX4_isLike_0 : decode cX4_isLike 0 = .ok (.aload_n 0, 1) := by decide +kernel
theorem dX4_isLike_1 : decode cX4_isLike 1 = .ok (.getfield 15, 3) := by decide +kernel
theorem dX4_isLike_4 : decode cX4_isLike 4 = .ok (.aload_n 1, 1) := by decide +kernel
theorem dX4_isLike_5 : decode cX4_isLike 5 = .ok (.getfield 15, 3) := by decide +kernel
theorem dX4_isLike_8 : decode cX4_isLike 8 = .ok (.if_icmp .ne 7, 3) := by decide +kernel
theorem dX4_isLike_11 : decode cX4_isLike 11 = .ok (.iconst 1, 1) := by decide +kernel
theorem dX4_isLike_12 : decode cX4_isLike 12 = .ok (.goto 4, 3) := by decide +kernel
theorem dX4_isLike_15 : decode cX4_isLike 15 = .ok (.iconst 0, 1) := by decide +kernel
theorem dX4_isLike_16 : decode cX4_isLike 16 = .ok (.istore_n 2, 1) := by decide +kernel
theorem dX4_isLike_17 : decode cX4_isLike 17 = .ok (.iconst 0, 1) := by decide +kernel
theorem dX4_isLike_18 : decode cX4_isLike 18 = .ok (.istore_n 3, 1) := by decide +kernel
theorem dX4_isLike_19 : decode cX4_isLike 19 = .ok (.iload_n 3, 1) := by decide +kernel
theorem dX4_isLike_20 : decode cX4_isLike 20 = .ok (.aload_n 0, 1) := by decide +kernel
theorem dX4_isLike_21 : decode cX4_isLike 21 = .ok (.getfield 15, 3) := by decide +kernel
theorem dX4_isLike_24 : decode cX4_isLike 24 = .ok (.if_icmp .ge 34, 3) := by decide +kernel
theorem dX4_isLike_27 : decode cX4_isLike 27 = .ok (.iload_n 2, 1) := by decide +kernel
theorem dX4_isLike_28 : decode cX4_isLike 28 = .ok (.ifCond .eq 30, 3) := by decide +kernel
theorem dX4_isLike_31 : decode cX4_isLike 31 = .ok (.aload_n 0, 1) := by decide +kernel
theorem dX4_isLike_32 : decode cX4_isLike 32 = .ok (.getfield 9, 3) := by decide +kernel
theorem dX4_isLike_35 : decode cX4_isLike 35 = .ok (.iload_n 3, 1) := by decide +kernel
theorem dX4_isLike_36 : decode cX4_isLike 36 = .ok (.iaload, 1) := by decide +kernel
theorem dX4_isLike_37 : decode cX4_isLike 37 = .ok (.aload_n 1, 1) := by decide +kernel
theorem dX4_isLike_38 : decode cX4_isLike 38 = .ok (.getfield 9, 3) := by decide +kernel
theorem dX4_isLike_41 : decode cX4_isLike 41 = .ok (.iload_n 3, 1) := by decide +kernel
theorem dX4_isLike_42 : decode cX4_isLike 42 = .ok (.iaload, 1) := by decide +kernel
theorem dX4_isLike_43 : decode cX4_isLike 43 = .ok (.if_icmp .ne 7, 3) := by decide +kernel
theorem dX4_isLike_46 : decode cX4_isLike 46 = .ok (.iconst 1, 1) := by decide +kernel
theorem dX4_isLike_47 : decode cX4_isLike 47 = .ok (.goto 4, 3) := by decide +kernel
theorem dX4_isLike_50 : decode cX4_isLike 50 = .ok (.iconst 0, 1) := by decide +kernel
theorem dX4_isLike_51 : decode cX4_isLike 51 = .ok (.istore_n 2, 1) := by decide +kernel
theorem dX4_isLike_52 : decode cX4_isLike 52 = .ok (.iinc 3 1, 3) := by decide +kernel
theorem dX4_isLike_55 : decode cX4_isLike 55 = .ok (.goto (-36), 3) := by decide +kernel
theorem dX4_isLike_58 : decode cX4_isLike 58 = .ok (.iload_n 2, 1) := by decide +kernel
theorem dX4_isLike_59 : decode cX4_isLike 59 = .ok (.ireturn, 1) := by decide +kernel
theorem dX5_init_0 : decode cX5_init 0 = .ok (.aload_n 0, 1) := by decide +kernel
theorem dX5_init_1 : decode cX5_init 1 = .ok (.invokespecial 3, 3) := by decide +kernel
theorem dX5_init_4 : decode cX5_init 4 = .ok (.aload_n 0, 1) := by decide +kernel
theorem dX5_init_5 : decode cX5_init 5 = .ok (.bipush 16, 2) := by decide +kernel
theorem dX5_init_7 : decode cX5_init 7 = .ok (.newarray .int, 2) := by decide +kernel
theorem dX5_init_9 : decode cX5_init 9 = .ok (.putfield 9, 3) := by decide +kernel
theorem dX5_init_12 : decode cX5_init 12 = .ok (.aload_n 0, 1) := by decide +kernel
theorem dX5_init_13 : decode cX5_init 13 = .ok (.bipush 16, 2) := by decide +kernel
theorem dX5_init_15 : decode cX5_init 15 = .ok (.newarray .int, 2) := by decide +kernel
theorem dX5_init_17 : decode cX5_init 17 = .ok (.putfield 15, 3) := by decide +kernel
theorem dX5_init_20 : decode cX5_init 20 = .ok (.aload_n 0, 1) := by decide +kernel
theorem dX5_init_21 : decode cX5_init 21 = .ok (.bipush 16, 2) := by decide +kernel
theorem dX5_init_23 : decode cX5_init 23 = .ok (.newarray .int, 2) := by decide +kernel
theorem dX5_init_25 : decode cX5_init 25 = .ok (.putfield 18, 3) := by decide +kernel
theorem dX5_init_28 : decode cX5_init 28 = .ok (.aload_n 0, 1) := by decide +kernel
theorem dX5_init_29 : decode cX5_init 29 = .ok (.bipush 10, 2) := by decide +kernel
theorem dX5_init_31 : decode cX5_init 31 = .ok (.newarray .int, 2) := by decide +kernel
theorem dX5_init_33 : decode cX5_init 33 = .ok (.putfield 21, 3) := by decide +kernel
theorem dX5_init_36 : decode cX5_init 36 = .ok (.aload_n 0, 1) := by decide +kernel
theorem dX5_init_37 : decode cX5_init 37 = .ok (.bipush 10, 2) := by decide +kernel
theorem dX5_init_39 : decode cX5_init 39 = .ok (.newarray .int, 2) := by decide +kernel
theorem dX5_init_41 : decode cX5_init 41 = .ok (.putfield 24, 3) := by decide +kernel
theorem dX5_init_44 : decode cX5_init 44 = .ok (.return_, 1) := by decide +kernel
theorem dX5_add_0 : decode cX5_add 0 = .ok (.aload_n 0, 1) := by decide +kernel
theorem dX5_add_1 : decode cX5_add 1 = .ok (.getfield 27, 3) := by decide +kernel
theorem dX5_add_4 : decode cX5_add 4 = .ok (.istore 4, 2) := by decide +kernel
theorem dX5_add_6 : decode cX5_add 6 = .ok (.aload_n 0, 1) := by decide +kernel
theorem dX5_add_7 : decode cX5_add 7 = .ok (.getfield 9, 3) := by decide +kernel
theorem dX5_add_10 : decode cX5_add 10 = .ok (.iload 4, 2) := by decide +kernel
theorem dX5_add_12 : decode cX5_add 12 = .ok (.iload_n 1, 1) := by decide +kernel
theorem dX5_add_13 : decode cX5_add 13 = .ok (.iastore, 1) := by decide +kernel
theorem dX5_add_14 : decode cX5_add 14 = .ok (.aload_n 0, 1) := by decide +kernel
theorem dX5_add_15 : decode cX5_add 15 = .ok (.getfield 15, 3) := by decide +kernel
theorem dX5_add_18 : decode cX5_add 18 = .ok (.iload 4, 2) := by decide +kernel
theorem dX5_add_20 : decode cX5_add 20 = .ok (.iload_n 2, 1) := by decide +kernel
theorem dX5_add_21 : decode cX5_add 21 = .ok (.iastore, 1) := by decide +kernel
theorem dX5_add_22 : decode cX5_add 22 = .ok (.aload_n 0, 1) := by decide +kernel
theorem dX5_add_23 : decode cX5_add 23 = .ok (.getfield 18, 3) := by decide +kernel
theorem dX5_add_26 : decode cX5_add 26 = .ok (.iload 4, 2) := by decide +kernel
theorem dX5_add_28 : decode cX5_add 28 = .ok (.iload_n 3, 1) := by decide +kernel
theorem dX5_add_29 : decode cX5_add 29 = .ok (.iastore, 1) := by decide +kernel
theorem dX5_add_30 : decode cX5_add 30 = .ok (.aload_n 0, 1) := by decide +kernel
theorem dX5_add_31 : decode cX5_add 31 = .ok (.dup, 1) := by decide +kernel
theorem dX5_add_32 : decode cX5_add 32 = .ok (.getfield 27, 3) := by decide +kernel
theorem dX5_add_35 : decode cX5_add 35 = .ok (.iconst 1, 1) := by decide +kernel
theorem dX5_add_36 : decode cX5_add 36 = .ok (.iadd, 1) := by decide +kernel
theorem dX5_add_37 : decode cX5_add 37 = .ok (.putfield 27, 3) := by decide +kernel
theorem dX5_add_40 : decode cX5_add 40 = .ok (.iload 4, 2) := by decide +kernel
theorem dX5_add_42 : decode cX5_add 42 = .ok (.ireturn, 1) := by decide +kernel
theorem dX5_copyFrom_0 : decode cX5_copyFrom 0 = .ok (.aload_n 0, 1) := by decide +kernel
theorem dX5_copyFrom_1 : decode cX5_copyFrom 1 = .ok (.aload_n 1, 1) := by decide +kernel
theorem dX5_copyFrom_2 : decode cX5_copyFrom 2 = .ok (.getfield 27, 3) := by decide +kernel
theorem dX5_copyFrom_5 : decode cX5_copyFrom 5 = .ok (.putfield 27, 3) := by decide +kernel
theorem dX5_copyFrom_8 : decode cX5_copyFrom 8 = .ok (.aload_n 0, 1) := by decide +kernel
theorem dX5_copyFrom_9 : decode cX5_copyFrom 9 = .ok (.aload_n 1, 1) := by decide +kernel
theorem dX5_copyFrom_10 : decode cX5_copyFrom 10 = .ok (.getfield 31, 3) := by decide +kernel
theorem dX5_copyFrom_13 : decode cX5_copyFrom 13 = .ok (.putfield 31, 3) := by decide +kernel
theorem dX5_copyFrom_16 : decode cX5_copyFrom 16 = .ok (.aload_n 1, 1) := by decide +kernel
theorem dX5_copyFrom_17 : decode cX5_copyFrom 17 = .ok (.getfield 9, 3) := by decide +kernel
theorem dX5_copyFrom_20 : decode cX5_copyFrom 20 = .ok (.iconst 0, 1) := by decide +kernel
theorem dX5_copyFrom_21 : decode cX5_copyFrom 21 = .ok (.aload_n 0, 1) := by decide +kernel
theorem dX5_copyFrom_22 : decode cX5_copyFrom 22 = .ok (.getfield 9, 3) := by decide +kernel
theorem dX5_copyFrom_25 : decode cX5_copyFrom 25 = .ok (.iconst 0, 1) := by decide +kernel
theorem dX5_copyFrom_26 : decode cX5_copyFrom 26 = .ok (.bipush 16, 2) := by decide +kernel
theorem dX5_copyFrom_28 : decode cX5_copyFrom 28 = .ok (.invokestatic 34, 3) := by decide +kernel
theorem dX5_copyFrom_31 : decode cX5_copyFrom 31 = .ok (.aload_n 1, 1) := by decide +kernel
theorem dX5_copyFrom_32 : decode cX5_copyFrom 32 = .ok (.getfield 15, 3) := by decide +kernel
theorem dX5_copyFrom_35 : decode cX5_copyFrom 35 = .ok (.iconst 0, 1) := by decide +kernel
theorem dX5_copyFrom_36 : decode cX5_copyFrom 36 = .ok (.aload_n 0, 1) := by decide +kernel
theorem dX5_copyFrom_37 : decode cX5_copyFrom 37 = .ok (.getfield 15, 3) := by decide +kernel
theorem dX5_copyFrom_40 : decode cX5_copyFrom 40 = .ok (.iconst 0, 1) := by decide +kernel
theorem dX5_copyFrom_41 : decode cX5_copyFrom 41 = .ok (.bipush 16, 2) := by decide +kernel
theorem dX5_copyFrom_43 : decode cX5_copyFrom 43 = .ok (.invokestatic 34, 3) := by decide +kernel
theorem dX5_copyFrom_46 : decode cX5_copyFrom 46 = .ok (.aload_n 1, 1) := by decide +kernel
theorem dX5_copyFrom_47 : decode cX5_copyFrom 47 = .ok (.getfield 18, 3) := by decide +kernel
theorem dX5_copyFrom_50 : decode cX5_copyFrom 50 = .ok (.iconst 0, 1) := by decide +kernel
theorem dX5_copyFrom_51 : decode cX5_copyFrom 51 = .ok (.aload_n 0, 1) := by decide +kernel
theorem dX5_copyFrom_52 : decode cX5_copyFrom 52 = .ok (.getfield 18, 3) := by decide +kernel
theorem dX5_copyFrom_55 : decode cX5_copyFrom 55 = .ok (.iconst 0, 1) := by decide +kernel
theorem dX5_copyFrom_56 : decode cX5_copyFrom 56 = .ok (.bipush 16, 2) := by decide +kernel
theorem dX5_copyFrom_58 : decode cX5_copyFrom 58 = .ok (.invokestatic 34, 3) := by decide +kernel
theorem dX5_copyFrom_61 : decode cX5_copyFrom 61 = .ok (.return_, 1) := by decide +kernel
set_option maxRecDepth 20000 in
theorem ggX5_measure_J7_fill_53178 : GoodIn wsX5_measure wsJ7_fill_53178 := goodIn_r _ [8] (by decide +kernel) (by decide +kernel)
set_option maxRecDepth 20000 in
theorem gX5_measure_J7_fill_53178 : GoodIn wsX5_measure (va_wsS RX5 41 yJ7_fill_53178 wsJ7_fill_53178) := goodIn_app (goodIn_of _ (by decide +kernel)) ggX5_measure_J7_fill_53178
set_option maxRecDepth 20000 in
theorem ggX5_measure_X5_relax : GoodIn wsX5_measure wsX5_relax := goodIn_r _ [13, 14, 1, 15, 16, 17, 3, 18, 19, 20, 21, 22, 23, 24] (by decide +kernel) (by decide +kernel)
set_option maxRecDepth 20000 in
theorem gX5_measure_X5_relax : GoodIn wsX5_measure (wsV RX5 47 RX5 yX5_relax wsX5_relax) := goodIn_app (goodIn_of _ (by decide +kernel)) ggX5_measure_X5_relax
theorem dX5_measure_0 : decode cX5_measure 0 = .ok (.aload_n 0, 1) := by decide +kernel
theorem dX5_measure_1 : decode cX5_measure 1 = .ok (.getfield 21, 3) := by decide +kernel
theorem dX5_measure_4 : decode cX5_measure 4 = .ok (.ldc 40, 2) := by decide +kernel
theorem dX5_measure_6 : decode cX5_measure 6 = .ok (.invokestatic 41, 3) := by decide +kernel
theorem dX5_measure_9 : decode cX5_measure 9 = .ok (.aload_n 0, 1) := by decide +kernel
theorem dX5_measure_10 : decode cX5_measure 10 = .ok (.getfield 24, 3) := by decide +kernel
theorem dX5_measure_13 : decode cX5_measure 13 = .ok (.iconst (-1), 1) := by decide +kernel
theorem dX5_measure_14 : decode cX5_measure 14 = .ok (.invokestatic 41, 3) := by decide +kernel
theorem dX5_measure_17 : decode cX5_measure 17 = .ok (.aload_n 0, 1) := by decide +kernel
theorem dX5_measure_18 : decode cX5_measure 18 = .ok (.getfield 21, 3) := by decide +kernel
theorem dX5_measure_21 : decode cX5_measure 21 = .ok (.iload_n 1, 1) := by decide +kernel
theorem dX5_measure_22 : decode cX5_measure 22 = .ok (.iconst 0, 1) := by decide +kernel
theorem dX5_measure_23 : decode cX5_measure 23 = .ok (.iastore, 1) := by decide +kernel
theorem dX5_measure_24 : decode cX5_measure 24 = .ok (.aload_n 0, 1) := by decide +kernel
theorem dX5_measure_25 : decode cX5_measure 25 = .ok (.getfield 31, 3) := by decide +kernel
theorem dX5_measure_28 : decode cX5_measure 28 = .ok (.iload_n 3, 1) := by decide +kernel
theorem dX5_measure_29 : decode cX5_measure 29 = .ok (.ior, 1) := by decide +kernel
theorem dX5_measure_30 : decode cX5_measure 30 = .ok (.iconst (-1), 1) := by decide +kernel
theorem dX5_measure_31 : decode cX5_measure 31 = .ok (.ixor, 1) := by decide +kernel
theorem dX5_measure_32 : decode cX5_measure 32 = .ok (.istore 4, 2) := by decide +kernel
theorem dX5_measure_34 : decode cX5_measure 34 = .ok (.iconst 1, 1) := by decide +kernel
theorem dX5_measure_35 : decode cX5_measure 35 = .ok (.istore 5, 2) := by decide +kernel
theorem dX5_measure_37 : decode cX5_measure 37 = .ok (.iconst 0, 1) := by decide +kernel
theorem dX5_measure_38 : decode cX5_measure 38 = .ok (.istore 6, 2) := by decide +kernel
theorem dX5_measure_40 : decode cX5_measure 40 = .ok (.iload 6, 2) := by decide +kernel
theorem dX5_measure_42 : decode cX5_measure 42 = .ok (.bipush 10, 2) := by decide +kernel
theorem dX5_measure_44 : decode cX5_measure 44 = .ok (.if_icmp .ge 22, 3) := by decide +kernel
theorem dX5_measure_47 : decode cX5_measure 47 = .ok (.iload 5, 2) := by decide +kernel
theorem dX5_measure_49 : decode cX5_measure 49 = .ok (.ifCond .eq 17, 3) := by decide +kernel
theorem dX5_measure_52 : decode cX5_measure 52 = .ok (.aload_n 0, 1) := by decide +kernel
theorem dX5_measure_53 : decode cX5_measure 53 = .ok (.iload 4, 2) := by decide +kernel
theorem dX5_measure_55 : decode cX5_measure 55 = .ok (.invokevirtual 47, 3) := by decide +kernel
theorem dX5_measure_58 : decode cX5_measure 58 = .ok (.istore 5, 2) := by decide +kernel
theorem dX5_measure_60 : decode cX5_measure 60 = .ok (.iinc 6 1, 3) := by decide +kernel
theorem dX5_measure_63 : decode cX5_measure 63 = .ok (.goto (-23), 3) := by decide +kernel
theorem dX5_measure_66 : decode cX5_measure 66 = .ok (.aload_n 0, 1) := by decide +kernel
theorem dX5_measure_67 : decode cX5_measure 67 = .ok (.getfield 21, 3) := by decide +kernel
theorem dX5_measure_70 : decode cX5_measure 70 = .ok (.iload_n 2, 1) := by decide +kernel
theorem dX5_measure_71 : decode cX5_measure 71 = .ok (.iaload, 1) := by decide +kernel
theorem dX5_measure_72 : decode cX5_measure 72 = .ok (.ireturn, 1) := by decide +kernel
theorem dX5_wayTo_0 : decode cX5_wayTo 0 = .ok (.iconst 0, 1) := by decide +kernel
theorem dX5_wayTo_1 : decode cX5_wayTo 1 = .ok (.istore_n 2, 1) := by decide +kernel
theorem dX5_wayTo_2 : decode cX5_wayTo 2 = .ok (.iload_n 1, 1) := by decide +kernel
theorem dX5_wayTo_3 : decode cX5_wayTo 3 = .ok (.istore_n 3, 1) := by decide +kernel
theorem dX5_wayTo_4 : decode cX5_wayTo 4 = .ok (.iconst 0, 1) := by decide +kernel
theorem dX5_wayTo_5 : decode cX5_wayTo 5 = .ok (.istore 4, 2) := by decide +kernel
theorem dX5_wayTo_7 : decode cX5_wayTo 7 = .ok (.iload 4, 2) := by decide +kernel
theorem dX5_wayTo_9 : decode cX5_wayTo 9 = .ok (.bipush 10, 2) := by decide +kernel
theorem dX5_wayTo_11 : decode cX5_wayTo 11 = .ok (.if_icmp .ge 41, 3) := by decide +kernel
theorem dX5_wayTo_14 : decode cX5_wayTo 14 = .ok (.aload_n 0, 1) := by decide +kernel
theorem dX5_wayTo_15 : decode cX5_wayTo 15 = .ok (.getfield 24, 3) := by decide +kernel
theorem dX5_wayTo_18 : decode cX5_wayTo 18 = .ok (.iload_n 3, 1) := by decide +kernel
theorem dX5_wayTo_19 : decode cX5_wayTo 19 = .ok (.iaload, 1) := by decide +kernel
theorem dX5_wayTo_20 : decode cX5_wayTo 20 = .ok (.ifCond .lt 32, 3) := by decide +kernel
theorem dX5_wayTo_23 : decode cX5_wayTo 23 = .ok (.aload_n 0, 1) := by decide +kernel
theorem dX5_wayTo_24 : decode cX5_wayTo 24 = .ok (.getfield 24, 3) := by decide +kernel
theorem dX5_wayTo_27 : decode cX5_wayTo 27 = .ok (.iload_n 3, 1) := by decide +kernel
theorem dX5_wayTo_28 : decode cX5_wayTo 28 = .ok (.iaload, 1) := by decide +kernel
theorem dX5_wayTo_29 : decode cX5_wayTo 29 = .ok (.istore 5, 2) := by decide +kernel
theorem dX5_wayTo_31 : decode cX5_wayTo 31 = .ok (.iload_n 2, 1) := by decide +kernel
theorem dX5_wayTo_32 : decode cX5_wayTo 32 = .ok (.iconst 1, 1) := by decide +kernel
theorem dX5_wayTo_33 : decode cX5_wayTo 33 = .ok (.iload 5, 2) := by decide +kernel
theorem dX5_wayTo_35 : decode cX5_wayTo 35 = .ok (.ishl, 1) := by decide +kernel
theorem dX5_wayTo_36 : decode cX5_wayTo 36 = .ok (.ior, 1) := by decide +kernel
theorem dX5_wayTo_37 : decode cX5_wayTo 37 = .ok (.istore_n 2, 1) := by decide +kernel
theorem dX5_wayTo_38 : decode cX5_wayTo 38 = .ok (.aload_n 0, 1) := by decide +kernel
theorem dX5_wayTo_39 : decode cX5_wayTo 39 = .ok (.getfield 9, 3) := by decide +kernel
theorem dX5_wayTo_42 : decode cX5_wayTo 42 = .ok (.iload 5, 2) := by decide +kernel
theorem dX5_wayTo_44 : decode cX5_wayTo 44 = .ok (.iaload, 1) := by decide +kernel
theorem dX5_wayTo_45 : decode cX5_wayTo 45 = .ok (.istore_n 3, 1) := by decide +kernel
theorem dX5_wayTo_46 : decode cX5_wayTo 46 = .ok (.iinc 4 1, 3) := by decide +kernel
theorem dX5_wayTo_49 : decode cX5_wayTo 49 = .ok (.goto (-42), 3) := by decide +kernel
theorem dX5_wayTo_52 : decode cX5_wayTo 52 = .ok (.iload_n 2, 1) := by decide +kernel
theorem dX5_wayTo_53 : decode cX5_wayTo 53 = .ok (.ireturn, 1) := by decide +kernel
theorem dX5_relax_0 : decode cX5_relax 0 = .ok (.iconst 0, 1) := by decide +kernel
theorem dX5_relax_1 : decode cX5_relax 1 = .ok (.istore_n 2, 1) := by decide +kernel
theorem dX5_relax_2 : decode cX5_relax 2 = .ok (.iconst 0, 1) := by decide +kernel
theorem dX5_relax_3 : decode cX5_relax 3 = .ok (.istore_n 3, 1) := by decide +kernel
theorem dX5_relax_4 : decode cX5_relax 4 = .ok (.iload_n 3, 1) := by decide +kernel
theorem dX5_relax_5 : decode cX5_relax 5 = .ok (.aload_n 0, 1) := by decide +kernel
theorem dX5_relax_6 : decode cX5_relax 6 = .ok (.getfield 27, 3) := by decide +kernel
theorem dX5_relax_9 : decode cX5_relax 9 = .ok (.if_icmp .ge 80, 3) := by decide +kernel
theorem dX5_relax_12 : decode cX5_relax 12 = .ok (.aload_n 0, 1) := by decide +kernel
theorem dX5_relax_13 : decode cX5_relax 13 = .ok (.getfield 21, 3) := by decide +kernel
theorem dX5_relax_16 : decode cX5_relax 16 = .ok (.aload_n 0, 1) := by decide +kernel
theorem dX5_relax_17 : decode cX5_relax 17 = .ok (.getfield 9, 3) := by decide +kernel
theorem dX5_relax_20 : decode cX5_relax 20 = .ok (.iload_n 3, 1) := by decide +kernel
theorem dX5_relax_21 : decode cX5_relax 21 = .ok (.iaload, 1) := by decide +kernel
theorem dX5_relax_22 : decode cX5_relax 22 = .ok (.iaload, 1) := by decide +kernel
theorem dX5_relax_23 : decode cX5_relax 23 = .ok (.aload_n 0, 1) := by decide +kernel
theorem dX5_relax_24 : decode cX5_relax 24 = .ok (.getfield 18, 3) := by decide +kernel
theorem dX5_relax_27 : decode cX5_relax 27 = .ok (.iload_n 3, 1) := by decide +kernel
theorem dX5_relax_28 : decode cX5_relax 28 = .ok (.iaload, 1) := by decide +kernel
theorem dX5_relax_29 : decode cX5_relax 29 = .ok (.iadd, 1) := by decide +kernel
theorem dX5_relax_30 : decode cX5_relax 30 = .ok (.istore 4, 2) := by decide +kernel
theorem dX5_relax_32 : decode cX5_relax 32 = .ok (.iload_n 1, 1) := by decide +kernel
theorem dX5_relax_33 : decode cX5_relax 33 = .ok (.iload_n 3, 1) := by decide +kernel
theorem dX5_relax_34 : decode cX5_relax 34 = .ok (.ishr, 1) := by decide +kernel
theorem dX5_relax_35 : decode cX5_relax 35 = .ok (.iconst 1, 1) := by decide +kernel
theorem dX5_relax_36 : decode cX5_relax 36 = .ok (.iand, 1) := by decide +kernel
theorem dX5_relax_37 : decode cX5_relax 37 = .ok (.ifCond .eq 46, 3) := by decide +kernel
theorem dX5_relax_40 : decode cX5_relax 40 = .ok (.iload 4, 2) := by decide +kernel
theorem dX5_relax_42 : decode cX5_relax 42 = .ok (.aload_n 0, 1) := by decide +kernel
theorem dX5_relax_43 : decode cX5_relax 43 = .ok (.getfield 21, 3) := by decide +kernel
theorem dX5_relax_46 : decode cX5_relax 46 = .ok (.aload_n 0, 1) := by decide +kernel
theorem dX5_relax_47 : decode cX5_relax 47 = .ok (.getfield 15, 3) := by decide +kernel
theorem dX5_relax_50 : decode cX5_relax 50 = .ok (.iload_n 3, 1) := by decide +kernel
theorem dX5_relax_51 : decode cX5_relax 51 = .ok (.iaload, 1) := by decide +kernel
theorem dX5_relax_52 : decode cX5_relax 52 = .ok (.iaload, 1) := by decide +kernel
theorem dX5_relax_53 : decode cX5_relax 53 = .ok (.if_icmp .ge 30, 3) := by decide +kernel
theorem dX5_relax_56 : decode cX5_relax 56 = .ok (.aload_n 0, 1) := by decide +kernel
theorem dX5_relax_57 : decode cX5_relax 57 = .ok (.getfield 21, 3) := by decide +kernel
theorem dX5_relax_60 : decode cX5_relax 60 = .ok (.aload_n 0, 1) := by decide +kernel
theorem dX5_relax_61 : decode cX5_relax 61 = .ok (.getfield 15, 3) := by decide +kernel
theorem dX5_relax_64 : decode cX5_relax 64 = .ok (.iload_n 3, 1) := by decide +kernel
theorem dX5_relax_65 : decode cX5_relax 65 = .ok (.iaload, 1) := by decide +kernel
theorem dX5_relax_66 : decode cX5_relax 66 = .ok (.iload 4, 2) := by decide +kernel
theorem dX5_relax_68 : decode cX5_relax 68 = .ok (.iastore, 1) := by decide +kernel
theorem dX5_relax_69 : decode cX5_relax 69 = .ok (.aload_n 0, 1) := by decide +kernel
theorem dX5_relax_70 : decode cX5_relax 70 = .ok (.getfield 24, 3) := by decide +kernel
theorem dX5_relax_73 : decode cX5_relax 73 = .ok (.aload_n 0, 1) := by decide +kernel
theorem dX5_relax_74 : decode cX5_relax 74 = .ok (.getfield 15, 3) := by decide +kernel
theorem dX5_relax_77 : decode cX5_relax 77 = .ok (.iload_n 3, 1) := by decide +kernel
theorem dX5_relax_78 : decode cX5_relax 78 = .ok (.iaload, 1) := by decide +kernel
theorem dX5_relax_79 : decode cX5_relax 79 = .ok (.iload_n 3, 1) := by decide +kernel
theorem dX5_relax_80 : decode cX5_relax 80 = .ok (.iastore, 1) := by decide +kernel
theorem dX5_relax_81 : decode cX5_relax 81 = .ok (.iconst 1, 1) := by decide +kernel
theorem dX5_relax_82 : decode cX5_relax 82 = .ok (.istore_n 2, 1) := by decide +kernel
theorem dX5_relax_83 : decode cX5_relax 83 = .ok (.iinc 3 1, 3) := by decide +kernel
theorem dX5_relax_86 : decode cX5_relax 86 = .ok (.goto (-82), 3) := by decide +kernel
theorem dX5_relax_89 : decode cX5_relax 89 = .ok (.iload_n 2, 1) := by decide +kernel
theorem dX5_relax_90 : decode cX5_relax 90 = .ok (.ireturn, 1) := by decide +kernel
set_option maxRecDepth 20000 in
theorem ggX6_init_X8_init : GoodIn wsX6_init wsX8_init := goodIn_r _ [21, 22, 2, 3, 23, 24, 25, 26, 27, 28, 29, 30, 31, 32, 50, 51, 52, 53, 54, 55, 56, 57, 58, 59] (by decide +kernel) (by decide +kernel)
set_option maxRecDepth 20000 in
theorem gX6_init_X8_init_n9 : GoodIn wsX6_init (wsX8_init) := ggX6_init_X8_init
set_option maxRecDepth 20000 in
theorem ggX6_init_X5_init : GoodIn wsX6_init wsX5_init := goodIn_r _ [34, 35, 2, 3, 24, 36, 37, 38, 39, 40, 64, 65, 66, 67, 68, 69, 70] (by decide +kernel) (by decide +kernel)
set_option maxRecDepth 20000 in
theorem gX6_init_X5_init_n18 : GoodIn wsX6_init (wsX5_init) := ggX6_init_X5_init
set_option maxRecDepth 20000 in
theorem ggX6_init_X4_init : GoodIn wsX6_init wsX4_init := goodIn_r _ [42, 43, 2, 3, 24, 44, 71, 72] (by decide +kernel) (by decide +kernel)
set_option maxRecDepth 20000 in
theorem gX6_init_X4_init_n25 : GoodIn wsX6_init (wsX4_init) := ggX6_init_X4_init
set_option maxRecDepth 20000 in
theorem ggX6_init_X2_init : GoodIn wsX6_init wsX2_init := goodIn_r _ [46, 47, 2, 3, 24, 48, 49, 73, 74, 75] (by decide +kernel) (by decide +kernel)
set_option maxRecDepth 20000 in
theorem gX6_init_X2_init_n32 : GoodIn wsX6_init (wsX2_init) := ggX6_init_X2_init
theorem dX6_init_0 : decode cX6_init 0 = .ok (.aload_n 0, 1) := by decide +kernel
theorem dX6_init_1 : decode cX6_init 1 = .ok (.invokespecial 1, 3) := by decide +kernel
theorem dX6_init_4 : decode cX6_init 4 = .ok (.aload_n 0, 1) := by decide +kernel
theorem dX6_init_5 : decode cX6_init 5 = .ok (.new 7, 3) := by decide +kernel
theorem dX6_init_8 : decode cX6_init 8 = .ok (.dup, 1) := by decide +kernel
theorem dX6_init_9 : decode cX6_init 9 = .ok (.invokespecial 9, 3) := by decide +kernel
theorem dX6_init_12 : decode cX6_init 12 = .ok (.putfield 10, 3) := by decide +kernel
theorem dX6_init_15 : decode cX6_init 15 = .ok (.aload_n 0, 1) := by decide +kernel
theorem dX6_init_16 : decode cX6_init 16 = .ok (.new 16, 3) := by decide +kernel
theorem dX6_init_19 : decode cX6_init 19 = .ok (.dup, 1) := by decide +kernel
theorem dX6_init_20 : decode cX6_init 20 = .ok (.invokespecial 18, 3) := by decide +kernel
theorem dX6_init_23 : decode cX6_init 23 = .ok (.putfield 19, 3) := by decide +kernel
theorem dX6_init_26 : decode cX6_init 26 = .ok (.aload_n 0, 1) := by decide +kernel
theorem dX6_init_27 : decode cX6_init 27 = .ok (.new 23, 3) := by decide +kernel
theorem dX6_init_30 : decode cX6_init 30 = .ok (.dup, 1) := by decide +kernel
theorem dX6_init_31 : decode cX6_init 31 = .ok (.invokespecial 25, 3) := by decide +kernel
theorem dX6_init_34 : decode cX6_init 34 = .ok (.putfield 26, 3) := by decide +kernel
theorem dX6_init_37 : decode cX6_init 37 = .ok (.aload_n 0, 1) := by decide +kernel
theorem dX6_init_38 : decode cX6_init 38 = .ok (.new 30, 3) := by decide +kernel
theorem dX6_init_41 : decode cX6_init 41 = .ok (.dup, 1) := by decide +kernel
theorem dX6_init_42 : decode cX6_init 42 = .ok (.invokespecial 32, 3) := by decide +kernel
theorem dX6_init_45 : decode cX6_init 45 = .ok (.putfield 33, 3) := by decide +kernel
theorem dX6_init_48 : decode cX6_init 48 = .ok (.return_, 1) := by decide +kernel
set_option maxRecDepth 20000 in
theorem ggX6_copyFrom_X8_copyFrom : GoodIn wsX6_copyFrom wsX8_copyFrom := goodIn_r _ [9, 10, 11, 12, 13, 14, 15, 16, 17, 18, 19, 20, 21, 22, 23, 56, 57, 58, 59, 60, 61, 62, 63, 64, 65] (by decide +kernel) (by decide +kernel)
set_option maxRecDepth 20000 in
theorem gX6_copyFrom_X8_copyFrom : GoodIn wsX6_copyFrom (wsV RX6 37 RX8 yX8_copyFrom wsX8_copyFrom) := goodIn_app (goodIn_of _ (by decide +kernel)) ggX6_copyFrom_X8_copyFrom
set_option maxRecDepth 20000 in
theorem ggX6_copyFrom_X5_copyFrom : GoodIn wsX6_copyFrom wsX5_copyFrom := goodIn_r _ [28, 29, 30, 31, 32, 14, 15, 16, 33, 34, 66, 67, 68, 69, 70, 71, 72] (by decide +kernel) (by decide +kernel)
set_option maxRecDepth 20000 in
theorem gX6_copyFrom_X5_copyFrom : GoodIn wsX6_copyFrom (wsV RX6 41 RX5 yX5_copyFrom wsX5_copyFrom) := goodIn_app (goodIn_of _ (by decide +kernel)) ggX6_copyFrom_X5_copyFrom
set_option maxRecDepth 20000 in
theorem ggX6_copyFrom_X4_copyFrom : GoodIn wsX6_copyFrom wsX4_copyFrom := goodIn_r _ [39, 40, 41, 42, 14, 15, 16, 73, 74] (by decide +kernel) (by decide +kernel)
set_option maxRecDepth 20000 in
theorem gX6_copyFrom_X4_copyFrom : GoodIn wsX6_copyFrom (wsV RX6 44 RX4 yX4_copyFrom wsX4_copyFrom) := goodIn_app (goodIn_of _ (by decide +kernel)) ggX6_copyFrom_X4_copyFrom
set_option maxRecDepth 20000 in
theorem ggX6_copyFrom_X2_copyFrom : GoodIn wsX6_copyFrom wsX2_copyFrom := goodIn_r _ [47, 48, 49, 50, 14, 15, 16, 51, 75, 76, 77] (by decide +kernel) (by decide +kernel)
set_option maxRecDepth 20000 in
theorem gX6_copyFrom_X2_copyFrom : GoodIn wsX6_copyFrom (wsV RX6 47 RX2 yX2_copyFrom wsX2_copyFrom) := goodIn_app (goodIn_of _ (by decide +kernel)) ggX6_copyFrom_X2_copyFrom
theorem dX6_copyFrom_0 : decode cX6_copyFrom 0 = .ok (.aload_n 0, 1) := by decide +kernel
theorem dX6_copyFrom_1 : decode cX6_copyFrom 1 = .ok (.getfield 10, 3) := by decide +kernel
theorem dX6_copyFrom_4 : decode cX6_copyFrom 4 = .ok (.aload_n 1, 1) := by decide +kernel
theorem dX6_copyFrom_5 : decode cX6_copyFrom 5 = .ok (.getfield 10, 3) := by decide +kernel
theorem dX6_copyFrom_8 : decode cX6_copyFrom 8 = .ok (.invokevirtual 37, 3) := by decide +kernel
theorem dX6_copyFrom_11 : decode cX6_copyFrom 11 = .ok (.aload_n 0, 1) := by decide +kernel
theorem dX6_copyFrom_12 : decode cX6_copyFrom 12 = .ok (.getfield 19, 3) := by decide +kernel
theorem dX6_copyFrom_15 : decode cX6_copyFrom 15 = .ok (.aload_n 1, 1) := by decide +kernel
theorem dX6_copyFrom_16 : decode cX6_copyFrom 16 = .ok (.getfield 19, 3) := by decide +kernel
theorem dX6_copyFrom_19 : decode cX6_copyFrom 19 = .ok (.invokevirtual 41, 3) := by decide +kernel
theorem dX6_copyFrom_22 : decode cX6_copyFrom 22 = .ok (.aload_n 0, 1) := by decide +kernel
theorem dX6_copyFrom_23 : decode cX6_copyFrom 23 = .ok (.getfield 26, 3) := by decide +kernel
theorem dX6_copyFrom_26 : decode cX6_copyFrom 26 = .ok (.aload_n 1, 1) := by decide +kernel
theorem dX6_copyFrom_27 : decode cX6_copyFrom 27 = .ok (.getfield 26, 3) := by decide +kernel
theorem dX6_copyFrom_30 : decode cX6_copyFrom 30 = .ok (.invokevirtual 44, 3) := by decide +kernel
theorem dX6_copyFrom_33 : decode cX6_copyFrom 33 = .ok (.aload_n 0, 1) := by decide +kernel
theorem dX6_copyFrom_34 : decode cX6_copyFrom 34 = .ok (.getfield 33, 3) := by decide +kernel
theorem dX6_copyFrom_37 : decode cX6_copyFrom 37 = .ok (.aload_n 1, 1) := by decide +kernel
theorem dX6_copyFrom_38 : decode cX6_copyFrom 38 = .ok (.getfield 33, 3) := by decide +kernel
theorem dX6_copyFrom_41 : decode cX6_copyFrom 41 = .ok (.invokevirtual 47, 3) := by decide +kernel
theorem dX6_copyFrom_44 : decode cX6_copyFrom 44 = .ok (.return_, 1) := by decide +kernel
theorem dX7_init_0 : decode cX7_init 0 = .ok (.aload_n 0, 1) := by decide +kernel
theorem dX7_init_1 : decode cX7_init 1 = .ok (.invokespecial 3, 3) := by decide +kernel
theorem dX7_init_4 : decode cX7_init 4 = .ok (.aload_n 0, 1) := by decide +kernel
theorem dX7_init_5 : decode cX7_init 5 = .ok (.iconst 4, 1) := by decide +kernel
theorem dX7_init_6 : decode cX7_init 6 = .ok (.newarray .int, 2) := by decide +kernel
theorem dX7_init_8 : decode cX7_init 8 = .ok (.putfield 9, 3) := by decide +kernel
theorem dX7_init_11 : decode cX7_init 11 = .ok (.aload_n 0, 1) := by decide +kernel
theorem dX7_init_12 : decode cX7_init 12 = .ok (.iconst 4, 1) := by decide +kernel
theorem dX7_init_13 : decode cX7_init 13 = .ok (.newarray .int, 2) := by decide +kernel
theorem dX7_init_15 : decode cX7_init 15 = .ok (.dup, 1) := by decide +kernel
theorem dX7_init_16 : decode cX7_init 16 = .ok (.iconst 0, 1) := by decide +kernel
theorem dX7_init_17 : decode cX7_init 17 = .ok (.iconst (-1), 1) := by decide +kernel
theorem dX7_init_18 : decode cX7_init 18 = .ok (.iastore, 1) := by decide +kernel
theorem dX7_init_19 : decode cX7_init 19 = .ok (.dup, 1) := by decide +kernel
theorem dX7_init_20 : decode cX7_init 20 = .ok (.iconst 1, 1) := by decide +kernel
theorem dX7_init_21 : decode cX7_init 21 = .ok (.iconst (-1), 1) := by decide +kernel
theorem dX7_init_22 : decode cX7_init 22 = .ok (.iastore, 1) := by decide +kernel
theorem dX7_init_23 : decode cX7_init 23 = .ok (.dup, 1) := by decide +kernel
theorem dX7_init_24 : decode cX7_init 24 = .ok (.iconst 2, 1) := by decide +kernel
theorem dX7_init_25 : decode cX7_init 25 = .ok (.iconst (-1), 1) := by decide +kernel
theorem dX7_init_26 : decode cX7_init 26 = .ok (.iastore, 1) := by decide +kernel
theorem dX7_init_27 : decode cX7_init 27 = .ok (.dup, 1) := by decide +kernel
theorem dX7_init_28 : decode cX7_init 28 = .ok (.iconst 3, 1) := by decide +kernel
theorem dX7_init_29 : decode cX7_init 29 = .ok (.iconst (-1), 1) := by decide +kernel
theorem dX7_init_30 : decode cX7_init 30 = .ok (.iastore, 1) := by decide +kernel
theorem dX7_init_31 : decode cX7_init 31 = .ok (.putfield 15, 3) := by decide +kernel
theorem dX7_init_34 : decode cX7_init 34 = .ok (.aload_n 0, 1) := by decide +kernel
theorem dX7_init_35 : decode cX7_init 35 = .ok (.iconst 4, 1) := by decide +kernel
theorem dX7_init_36 : decode cX7_init 36 = .ok (.bipush 40, 2) := by decide +kernel
theorem dX7_init_38 : decode cX7_init 38 = .ok (.multianewarray 18 2, 4) := by decide +kernel
theorem dX7_init_42 : decode cX7_init 42 = .ok (.putfield 20, 3) := by decide +kernel
theorem dX7_init_45 : decode cX7_init 45 = .ok (.return_, 1) := by decide +kernel
theorem dX7_isMissing_0 : decode cX7_isMissing 0 = .ok (.aload_n 0, 1) := by decide +kernel
theorem dX7_isMissing_1 : decode cX7_isMissing 1 = .ok (.getfield 15, 3) := by decide +kernel
theorem dX7_isMissing_4 : decode cX7_isMissing 4 = .ok (.iload_n 1, 1) := by decide +kernel
theorem dX7_isMissing_5 : decode cX7_isMissing 5 = .ok (.iaload, 1) := by decide +kernel
theorem dX7_isMissing_6 : decode cX7_isMissing 6 = .ok (.ifCond .ge 7, 3) := by decide +kernel
theorem dX7_isMissing_9 : decode cX7_isMissing 9 = .ok (.iconst 1, 1) := by decide +kernel
theorem dX7_isMissing_10 : decode cX7_isMissing 10 = .ok (.goto 4, 3) := by decide +kernel
theorem dX7_isMissing_13 : decode cX7_isMissing 13 = .ok (.iconst 0, 1) := by decide +kernel
theorem dX7_isMissing_14 : decode cX7_isMissing 14 = .ok (.ireturn, 1) := by decide +kernel
set_option maxRecDepth 20000 in
theorem ggX7_renew_J7_fill_53178 : GoodIn wsX7_renew wsJ7_fill_53178 := goodIn_r _ [7] (by decide +kernel) (by decide +kernel)
set_option maxRecDepth 20000 in
theorem gX7_renew_J7_fill_53178 : GoodIn wsX7_renew (va_wsS RX7 23 yJ7_fill_53178 wsJ7_fill_53178) := goodIn_app (goodIn_of _ (by decide +kernel)) ggX7_renew_J7_fill_53178
theorem dX7_renew_0 : decode cX7_renew 0 = .ok (.aload_n 0, 1) := by decide +kernel
theorem dX7_renew_1 : decode cX7_renew 1 = .ok (.getfield 9, 3) := by decide +kernel
theorem dX7_renew_4 : decode cX7_renew 4 = .ok (.iload_n 1, 1) := by decide +kernel
theorem dX7_renew_5 : decode cX7_renew 5 = .ok (.iload_n 2, 1) := by decide +kernel
theorem dX7_renew_6 : decode cX7_renew 6 = .ok (.iastore, 1) := by decide +kernel
theorem dX7_renew_7 : decode cX7_renew 7 = .ok (.aload_n 0, 1) := by decide +kernel
theorem dX7_renew_8 : decode cX7_renew 8 = .ok (.getfield 15, 3) := by decide +kernel
theorem dX7_renew_11 : decode cX7_renew 11 = .ok (.iload_n 1, 1) := by decide +kernel
theorem dX7_renew_12 : decode cX7_renew 12 = .ok (.iload_n 3, 1) := by decide +kernel
theorem dX7_renew_13 : decode cX7_renew 13 = .ok (.iastore, 1) := by decide +kernel
theorem dX7_renew_14 : decode cX7_renew 14 = .ok (.aload_n 0, 1) := by decide +kernel
theorem dX7_renew_15 : decode cX7_renew 15 = .ok (.getfield 20, 3) := by decide +kernel
theorem dX7_renew_18 : decode cX7_renew 18 = .ok (.iload_n 1, 1) := by decide +kernel
theorem dX7_renew_19 : decode cX7_renew 19 = .ok (.aaload, 1) := by decide +kernel
theorem dX7_renew_20 : decode cX7_renew 20 = .ok (.iconst 0, 1) := by decide +kernel
theorem dX7_renew_21 : decode cX7_renew 21 = .ok (.invokestatic 23, 3) := by decide +kernel
theorem dX7_renew_24 : decode cX7_renew 24 = .ok (.return_, 1) := by decide +kernel
set_option maxRecDepth 20000 in
theorem ggX7_replace_X7_narrowed : GoodIn wsX7_replace wsX7_narrowed := goodIn_r _ [6] (by decide +kernel) (by decide +kernel)
set_option maxRecDepth 20000 in
theorem gX7_replace_X7_narrowed : GoodIn wsX7_replace (va_wsS RX7 29 yX7_narrowed wsX7_narrowed) := goodIn_app (goodIn_of _ (by decide +kernel)) ggX7_replace_X7_narrowed
theorem dX7_replace_0 : decode cX7_replace 0 = .ok (.aload_n 0, 1) := by decide +kernel
theorem dX7_replace_1 : decode cX7_replace 1 = .ok (.getfield 20, 3) := by decide +kernel
theorem dX7_replace_4 : decode cX7_replace 4 = .ok (.iload_n 1, 1) := by decide +kernel
theorem dX7_replace_5 : decode cX7_replace 5 = .ok (.aaload, 1) := by decide +kernel
theorem dX7_replace_6 : decode cX7_replace 6 = .ok (.iload_n 2, 1) := by decide +kernel
theorem dX7_replace_7 : decode cX7_replace 7 = .ok (.iaload, 1) := by decide +kernel
theorem dX7_replace_8 : decode cX7_replace 8 = .ok (.istore 4, 2) := by decide +kernel
theorem dX7_replace_10 : decode cX7_replace 10 = .ok (.aload_n 0, 1) := by decide +kernel
theorem dX7_replace_11 : decode cX7_replace 11 = .ok (.getfield 20, 3) := by decide +kernel
theorem dX7_replace_14 : decode cX7_replace 14 = .ok (.iload_n 1, 1) := by decide +kernel
theorem dX7_replace_15 : decode cX7_replace 15 = .ok (.aaload, 1) := by decide +kernel
theorem dX7_replace_16 : decode cX7_replace 16 = .ok (.iload_n 2, 1) := by decide +kernel
theorem dX7_replace_17 : decode cX7_replace 17 = .ok (.iload_n 3, 1) := by decide +kernel
theorem dX7_replace_18 : decode cX7_replace 18 = .ok (.aload_n 0, 1) := by decide +kernel
theorem dX7_replace_19 : decode cX7_replace 19 = .ok (.getfield 9, 3) := by decide +kernel
theorem dX7_replace_22 : decode cX7_replace 22 = .ok (.iload_n 1, 1) := by decide +kernel
theorem dX7_replace_23 : decode cX7_replace 23 = .ok (.iaload, 1) := by decide +kernel
theorem dX7_replace_24 : decode cX7_replace 24 = .ok (.invokestatic 29, 3) := by decide +kernel
theorem dX7_replace_27 : decode cX7_replace 27 = .ok (.iastore, 1) := by decide +kernel
theorem dX7_replace_28 : decode cX7_replace 28 = .ok (.iload 4, 2) := by decide +kernel
theorem dX7_replace_30 : decode cX7_replace 30 = .ok (.ireturn, 1) := by decide +kernel
theorem dX7_narrowed_0 : decode cX7_narrowed 0 = .ok (.iload_n 1, 1) := by decide +kernel
theorem dX7_narrowed_1 : decode cX7_narrowed 1 = .ok (.lookupswitch 33 #[(0, 27), (1, 30)], 27) := by decide +kernel
theorem dX7_narrowed_28 : decode cX7_narrowed 28 = .ok (.iload_n 0, 1) := by decide +kernel
theorem dX7_narrowed_29 : decode cX7_narrowed 29 = .ok (.i2b, 1) := by decide +kernel
theorem dX7_narrowed_30 : decode cX7_narrowed 30 = .ok (.ireturn, 1) := by decide +kernel
theorem dX7_narrowed_31 : decode cX7_narrowed 31 = .ok (.iload_n 0, 1) := by decide +kernel
theorem dX7_narrowed_32 : decode cX7_narrowed 32 = .ok (.i2s, 1) := by decide +kernel
theorem dX7_narrowed_33 : decode cX7_narrowed 33 = .ok (.ireturn, 1) := by decide +kernel
theorem dX7_narrowed_34 : decode cX7_narrowed 34 = .ok (.iload_n 0, 1) := by decide +kernel
theorem dX7_narrowed_35 : decode cX7_narrowed 35 = .ok (.ireturn, 1) := by decide +kernel
theorem dX8_init_0 : decode cX8_init 0 = .ok (.aload_n 0, 1) := by decide +kernel
theorem dX8_init_1 : decode cX8_init 1 = .ok (.invokespecial 3, 3) := by decide +kernel
theorem dX8_init_4 : decode cX8_init 4 = .ok (.aload_n 0, 1) := by decide +kernel
theorem dX8_init_5 : decode cX8_init 5 = .ok (.iconst 1, 1) := by decide +kernel
theorem dX8_init_6 : decode cX8_init 6 = .ok (.putfield 9, 3) := by decide +kernel
theorem dX8_init_9 : decode cX8_init 9 = .ok (.aload_n 0, 1) := by decide +kernel
theorem dX8_init_10 : decode cX8_init 10 = .ok (.bipush 10, 2) := by decide +kernel
theorem dX8_init_12 : decode cX8_init 12 = .ok (.newarray .int, 2) := by decide +kernel
theorem dX8_init_14 : decode cX8_init 14 = .ok (.putfield 15, 3) := by decide +kernel
theorem dX8_init_17 : decode cX8_init 17 = .ok (.aload_n 0, 1) := by decide +kernel
theorem dX8_init_18 : decode cX8_init 18 = .ok (.bipush 10, 2) := by decide +kernel
theorem dX8_init_20 : decode cX8_init 20 = .ok (.newarray .int, 2) := by decide +kernel
theorem dX8_init_22 : decode cX8_init 22 = .ok (.putfield 19, 3) := by decide +kernel
theorem dX8_init_25 : decode cX8_init 25 = .ok (.aload_n 0, 1) := by decide +kernel
theorem dX8_init_26 : decode cX8_init 26 = .ok (.bipush 10, 2) := by decide +kernel
theorem dX8_init_28 : decode cX8_init 28 = .ok (.newarray .int, 2) := by decide +kernel
theorem dX8_init_30 : decode cX8_init 30 = .ok (.putfield 22, 3) := by decide +kernel
theorem dX8_init_33 : decode cX8_init 33 = .ok (.aload_n 0, 1) := by decide +kernel
theorem dX8_init_34 : decode cX8_init 34 = .ok (.bipush 10, 2) := by decide +kernel
theorem dX8_init_36 : decode cX8_init 36 = .ok (.newarray .int, 2) := by decide +kernel
theorem dX8_init_38 : decode cX8_init 38 = .ok (.putfield 25, 3) := by decide +kernel
theorem dX8_init_41 : decode cX8_init 41 = .ok (.aload_n 0, 1) := by decide +kernel
theorem dX8_init_42 : decode cX8_init 42 = .ok (.bipush 10, 2) := by decide +kernel
theorem dX8_init_44 : decode cX8_init 44 = .ok (.newarray .int, 2) := by decide +kernel
theorem dX8_init_46 : decode cX8_init 46 = .ok (.putfield 28, 3) := by decide +kernel
theorem dX8_init_49 : decode cX8_init 49 = .ok (.aload_n 0, 1) := by decide +kernel
theorem dX8_init_50 : decode cX8_init 50 = .ok (.bipush 10, 2) := by decide +kernel
theorem dX8_init_52 : decode cX8_init 52 = .ok (.newarray .int, 2) := by decide +kernel
theorem dX8_init_54 : decode cX8_init 54 = .ok (.putfield 31, 3) := by decide +kernel
theorem dX8_init_57 : decode cX8_init 57 = .ok (.aload_n 0, 1) := by decide +kernel
theorem dX8_init_58 : decode cX8_init 58 = .ok (.bipush 10, 2) := by decide +kernel
theorem dX8_init_60 : decode cX8_init 60 = .ok (.newarray .int, 2) := by decide +kernel
theorem dX8_init_62 : decode cX8_init 62 = .ok (.putfield 34, 3) := by decide +kernel
theorem dX8_init_65 : decode cX8_init 65 = .ok (.aload_n 0, 1) := by decide +kernel
theorem dX8_init_66 : decode cX8_init 66 = .ok (.bipush 10, 2) := by decide +kernel
theorem dX8_init_68 : decode cX8_init 68 = .ok (.newarray .int, 2) := by decide +kernel
theorem dX8_init_70 : decode cX8_init 70 = .ok (.putfield 37, 3) := by decide +kernel
theorem dX8_init_73 : decode cX8_init 73 = .ok (.return_, 1) := by decide +kernel
set_option maxRecDepth 20000 in
theorem ggX8_has_X10_isFrom : GoodIn wsX8_has wsX10_isFrom := goodIn_r _ [4] (by decide +kernel) (by decide +kernel)
set_option maxRecDepth 20000 in
theorem gX8_has_X10_isFrom_n43 : GoodIn wsX8_has (wsX10_isFrom) := ggX8_has_X10_isFrom
theorem dX8_has_0 : decode cX8_has 0 = .ok (.iload_n 1, 1) := by decide +kernel
theorem dX8_has_1 : decode cX8_has 1 = .ok (.iconst 0, 1) := by decide +kernel
theorem dX8_has_2 : decode cX8_has 2 = .ok (.aload_n 0, 1) := by decide +kernel
theorem dX8_has_3 : decode cX8_has 3 = .ok (.getfield 40, 3) := by decide +kernel
theorem dX8_has_6 : decode cX8_has 6 = .ok (.iconst 1, 1) := by decide +kernel
theorem dX8_has_7 : decode cX8_has 7 = .ok (.isub, 1) := by decide +kernel
theorem dX8_has_8 : decode cX8_has 8 = .ok (.invokestatic 43, 3) := by decide +kernel
theorem dX8_has_11 : decode cX8_has 11 = .ok (.ireturn, 1) := by decide +kernel
theorem dX8_add_0 : decode cX8_add 0 = .ok (.aload_n 0, 1) := by decide +kernel
theorem dX8_add_1 : decode cX8_add 1 = .ok (.getfield 40, 3) := by decide +kernel
theorem dX8_add_4 : decode cX8_add 4 = .ok (.istore 6, 2) := by decide +kernel
theorem dX8_add_6 : decode cX8_add 6 = .ok (.aload_n 0, 1) := by decide +kernel
theorem dX8_add_7 : decode cX8_add 7 = .ok (.getfield 15, 3) := by decide +kernel
theorem dX8_add_10 : decode cX8_add 10 = .ok (.iload 6, 2) := by decide +kernel
theorem dX8_add_12 : decode cX8_add 12 = .ok (.iload_n 1, 1) := by decide +kernel
theorem dX8_add_13 : decode cX8_add 13 = .ok (.iastore, 1) := by decide +kernel
theorem dX8_add_14 : decode cX8_add 14 = .ok (.aload_n 0, 1) := by decide +kernel
theorem dX8_add_15 : decode cX8_add 15 = .ok (.getfield 19, 3) := by decide +kernel
theorem dX8_add_18 : decode cX8_add 18 = .ok (.iload 6, 2) := by decide +kernel
theorem dX8_add_20 : decode cX8_add 20 = .ok (.iload_n 2, 1) := by decide +kernel
theorem dX8_add_21 : decode cX8_add 21 = .ok (.iastore, 1) := by decide +kernel
theorem dX8_add_22 : decode cX8_add 22 = .ok (.aload_n 0, 1) := by decide +kernel
theorem dX8_add_23 : decode cX8_add 23 = .ok (.getfield 22, 3) := by decide +kernel
theorem dX8_add_26 : decode cX8_add 26 = .ok (.iload 6, 2) := by decide +kernel
theorem dX8_add_28 : decode cX8_add 28 = .ok (.iload_n 3, 1) := by decide +kernel
theorem dX8_add_29 : decode cX8_add 29 = .ok (.iastore, 1) := by decide +kernel
theorem dX8_add_30 : decode cX8_add 30 = .ok (.aload_n 0, 1) := by decide +kernel
theorem dX8_add_31 : decode cX8_add 31 = .ok (.getfield 25, 3) := by decide +kernel
theorem dX8_add_34 : decode cX8_add 34 = .ok (.iload 6, 2) := by decide +kernel
theorem dX8_add_36 : decode cX8_add 36 = .ok (.iload 4, 2) := by decide +kernel
theorem dX8_add_38 : decode cX8_add 38 = .ok (.iastore, 1) := by decide +kernel
theorem dX8_add_39 : decode cX8_add 39 = .ok (.aload_n 0, 1) := by decide +kernel
theorem dX8_add_40 : decode cX8_add 40 = .ok (.getfield 28, 3) := by decide +kernel
theorem dX8_add_43 : decode cX8_add 43 = .ok (.iload 6, 2) := by decide +kernel
theorem dX8_add_45 : decode cX8_add 45 = .ok (.iload 5, 2) := by decide +kernel
theorem dX8_add_47 : decode cX8_add 47 = .ok (.iastore, 1) := by decide +kernel
theorem dX8_add_48 : decode cX8_add 48 = .ok (.aload_n 0, 1) := by decide +kernel
theorem dX8_add_49 : decode cX8_add 49 = .ok (.getfield 31, 3) := by decide +kernel
theorem dX8_add_52 : decode cX8_add 52 = .ok (.iload 6, 2) := by decide +kernel
theorem dX8_add_54 : decode cX8_add 54 = .ok (.iconst 0, 1) := by decide +kernel
theorem dX8_add_55 : decode cX8_add 55 = .ok (.iastore, 1) := by decide +kernel
theorem dX8_add_56 : decode cX8_add 56 = .ok (.aload_n 0, 1) := by decide +kernel
theorem dX8_add_57 : decode cX8_add 57 = .ok (.getfield 34, 3) := by decide +kernel
theorem dX8_add_60 : decode cX8_add 60 = .ok (.iload 6, 2) := by decide +kernel
theorem dX8_add_62 : decode cX8_add 62 = .ok (.iload_n 1, 1) := by decide +kernel
theorem dX8_add_63 : decode cX8_add 63 = .ok (.iconst 1, 1) := by decide +kernel
theorem dX8_add_64 : decode cX8_add 64 = .ok (.if_icmp .ne 7, 3) := by decide +kernel
theorem dX8_add_67 : decode cX8_add 67 = .ok (.iconst 0, 1) := by decide +kernel
theorem dX8_add_68 : decode cX8_add 68 = .ok (.goto 5, 3) := by decide +kernel
theorem dX8_add_71 : decode cX8_add 71 = .ok (.bipush 60, 2) := by decide +kernel
theorem dX8_add_73 : decode cX8_add 73 = .ok (.iastore, 1) := by decide +kernel
theorem dX8_add_74 : decode cX8_add 74 = .ok (.aload_n 0, 1) := by decide +kernel
theorem dX8_add_75 : decode cX8_add 75 = .ok (.getfield 37, 3) := by decide +kernel
theorem dX8_add_78 : decode cX8_add 78 = .ok (.iload 6, 2) := by decide +kernel
theorem dX8_add_80 : decode cX8_add 80 = .ok (.iconst 0, 1) := by decide +kernel
theorem dX8_add_81 : decode cX8_add 81 = .ok (.iastore, 1) := by decide +kernel
theorem dX8_add_82 : decode cX8_add 82 = .ok (.aload_n 0, 1) := by decide +kernel
theorem dX8_add_83 : decode cX8_add 83 = .ok (.dup, 1) := by decide +kernel
theorem dX8_add_84 : decode cX8_add 84 = .ok (.getfield 40, 3) := by decide +kernel
theorem dX8_add_87 : decode cX8_add 87 = .ok (.iconst 1, 1) := by decide +kernel
theorem dX8_add_88 : decode cX8_add 88 = .ok (.iadd, 1) := by decide +kernel
theorem dX8_add_89 : decode cX8_add 89 = .ok (.putfield 40, 3) := by decide +kernel
theorem dX8_add_92 : decode cX8_add 92 = .ok (.iload 6, 2) := by decide +kernel
theorem dX8_add_94 : decode cX8_add 94 = .ok (.ireturn, 1) := by decide +kernel
theorem dX8_copyFrom_0 : decode cX8_copyFrom 0 = .ok (.aload_n 0, 1) := by decide +kernel
theorem dX8_copyFrom_1 : decode cX8_copyFrom 1 = .ok (.aload_n 1, 1) := by decide +kernel
theorem dX8_copyFrom_2 : decode cX8_copyFrom 2 = .ok (.getfield 40, 3) := by decide +kernel
theorem dX8_copyFrom_5 : decode cX8_copyFrom 5 = .ok (.putfield 40, 3) := by decide +kernel
theorem dX8_copyFrom_8 : decode cX8_copyFrom 8 = .ok (.aload_n 0, 1) := by decide +kernel
theorem dX8_copyFrom_9 : decode cX8_copyFrom 9 = .ok (.aload_n 1, 1) := by decide +kernel
theorem dX8_copyFrom_10 : decode cX8_copyFrom 10 = .ok (.getfield 9, 3) := by decide +kernel
theorem dX8_copyFrom_13 : decode cX8_copyFrom 13 = .ok (.putfield 9, 3) := by decide +kernel
theorem dX8_copyFrom_16 : decode cX8_copyFrom 16 = .ok (.aload_n 1, 1) := by decide +kernel
theorem dX8_copyFrom_17 : decode cX8_copyFrom 17 = .ok (.getfield 15, 3) := by decide +kernel
theorem dX8_copyFrom_20 : decode cX8_copyFrom 20 = .ok (.iconst 0, 1) := by decide +kernel
theorem dX8_copyFrom_21 : decode cX8_copyFrom 21 = .ok (.aload_n 0, 1) := by decide +kernel
theorem dX8_copyFrom_22 : decode cX8_copyFrom 22 = .ok (.getfield 15, 3) := by decide +kernel
theorem dX8_copyFrom_25 : decode cX8_copyFrom 25 = .ok (.iconst 0, 1) := by decide +kernel
theorem dX8_copyFrom_26 : decode cX8_copyFrom 26 = .ok (.bipush 10, 2) := by decide +kernel
theorem dX8_copyFrom_28 : decode cX8_copyFrom 28 = .ok (.invokestatic 47, 3) := by decide +kernel
theorem dX8_copyFrom_31 : decode cX8_copyFrom 31 = .ok (.aload_n 1, 1) := by decide +kernel
theorem dX8_copyFrom_32 : decode cX8_copyFrom 32 = .ok (.getfield 19, 3) := by decide +kernel
theorem dX8_copyFrom_35 : decode cX8_copyFrom 35 = .ok (.iconst 0, 1) := by decide +kernel
theorem dX8_copyFrom_36 : decode cX8_copyFrom 36 = .ok (.aload_n 0, 1) := by decide +kernel
theorem dX8_copyFrom_37 : decode cX8_copyFrom 37 = .ok (.getfield 19, 3) := by decide +kernel
theorem dX8_copyFrom_40 : decode cX8_copyFrom 40 = .ok (.iconst 0, 1) := by decide +kernel
theorem dX8_copyFrom_41 : decode cX8_copyFrom 41 = .ok (.bipush 10, 2) := by decide +kernel
theorem dX8_copyFrom_43 : decode cX8_copyFrom 43 = .ok (.invokestatic 47, 3) := by decide +kernel
theorem dX8_copyFrom_46 : decode cX8_copyFrom 46 = .ok (.aload_n 1, 1) := by decide +kernel
theorem dX8_copyFrom_47 : decode cX8_copyFrom 47 = .ok (.getfield 22, 3) := by decide +kernel
theorem dX8_copyFrom_50 : decode cX8_copyFrom 50 = .ok (.iconst 0, 1) := by decide +kernel
theorem dX8_copyFrom_51 : decode cX8_copyFrom 51 = .ok (.aload_n 0, 1) := by decide +kernel
theorem dX8_copyFrom_52 : decode cX8_copyFrom 52 = .ok (.getfield 22, 3) := by decide +kernel
theorem dX8_copyFrom_55 : decode cX8_copyFrom 55 = .ok (.iconst 0, 1) := by decide +kernel
theorem dX8_copyFrom_56 : decode cX8_copyFrom 56 = .ok (.bipush 10, 2) := by decide +kernel
theorem dX8_copyFrom_58 : decode cX8_copyFrom 58 = .ok (.invokestatic 47, 3) := by decide +kernel
theorem dX8_copyFrom_61 : decode cX8_copyFrom 61 = .ok (.aload_n 1, 1) := by decide +kernel
theorem dX8_copyFrom_62 : decode cX8_copyFrom 62 = .ok (.getfield 25, 3) := by decide +kernel
theorem dX8_copyFrom_65 : decode cX8_copyFrom 65 = .ok (.iconst 0, 1) := by decide +kernel
theorem dX8_copyFrom_66 : decode cX8_copyFrom 66 = .ok (.aload_n 0, 1) := by decide +kernel
theorem dX8_copyFrom_67 : decode cX8_copyFrom 67 = .ok (.getfield 25, 3) := by decide +kernel
theorem dX8_copyFrom_70 : decode cX8_copyFrom 70 = .ok (.iconst 0, 1) := by decide +kernel
theorem dX8_copyFrom_71 : decode cX8_copyFrom 71 = .ok (.bipush 10, 2) := by decide +kernel
theorem dX8_copyFrom_73 : decode cX8_copyFrom 73 = .ok (.invokestatic 47, 3) := by decide +kernel
theorem dX8_copyFrom_76 : decode cX8_copyFrom 76 = .ok (.aload_n 1, 1) := by decide +kernel
theorem dX8_copyFrom_77 : decode cX8_copyFrom 77 = .ok (.getfield 28, 3) := by decide +kernel
theorem dX8_copyFrom_80 : decode cX8_copyFrom 80 = .ok (.iconst 0, 1) := by decide +kernel
theorem dX8_copyFrom_81 : decode cX8_copyFrom 81 = .ok (.aload_n 0, 1) := by decide +kernel
theorem dX8_copyFrom_82 : decode cX8_copyFrom 82 = .ok (.getfield 28, 3) := by decide +kernel
theorem dX8_copyFrom_85 : decode cX8_copyFrom 85 = .ok (.iconst 0, 1) := by decide +kernel
theorem dX8_copyFrom_86 : decode cX8_copyFrom 86 = .ok (.bipush 10, 2) := by decide +kernel
theorem dX8_copyFrom_88 : decode cX8_copyFrom 88 = .ok (.invokestatic 47, 3) := by decide +kernel
theorem dX8_copyFrom_91 : decode cX8_copyFrom 91 = .ok (.aload_n 1, 1) := by decide +kernel
theorem dX8_copyFrom_92 : decode cX8_copyFrom 92 = .ok (.getfield 31, 3) := by decide +kernel
theorem dX8_copyFrom_95 : decode cX8_copyFrom 95 = .ok (.iconst 0, 1) := by decide +kernel
theorem dX8_copyFrom_96 : decode cX8_copyFrom 96 = .ok (.aload_n 0, 1) := by decide +kernel
theorem dX8_copyFrom_97 : decode cX8_copyFrom 97 = .ok (.getfield 31, 3) := by decide +kernel
theorem dX8_copyFrom_100 : decode cX8_copyFrom 100 = .ok (.iconst 0, 1) := by decide +kernel
theorem dX8_copyFrom_101 : decode cX8_copyFrom 101 = .ok (.bipush 10, 2) := by decide +kernel
theorem dX8_copyFrom_103 : decode cX8_copyFrom 103 = .ok (.invokestatic 47, 3) := by decide +kernel
theorem dX8_copyFrom_106 : decode cX8_copyFrom 106 = .ok (.aload_n 1, 1) := by decide +kernel
theorem dX8_copyFrom_107 : decode cX8_copyFrom 107 = .ok (.getfield 34, 3) := by decide +kernel
theorem dX8_copyFrom_110 : decode cX8_copyFrom 110 = .ok (.iconst 0, 1) := by decide +kernel
theorem dX8_copyFrom_111 : decode cX8_copyFrom 111 = .ok (.aload_n 0, 1) := by decide +kernel
theorem dX8_copyFrom_112 : decode cX8_copyFrom 112 = .ok (.getfield 34, 3) := by decide +kernel
theorem dX8_copyFrom_115 : decode cX8_copyFrom 115 = .ok (.iconst 0, 1) := by decide +kernel
theorem dX8_copyFrom_116 : decode cX8_copyFrom 116 = .ok (.bipush 10, 2) := by decide +kernel
theorem dX8_copyFrom_118 : decode cX8_copyFrom 118 = .ok (.invokestatic 47, 3) := by decide +kernel
theorem dX8_copyFrom_121 : decode cX8_copyFrom 121 = .ok (.aload_n 1, 1) := by decide +kernel
theorem dX8_copyFrom_122 : decode cX8_copyFrom 122 = .ok (.getfield 37, 3) := by decide +kernel
theorem dX8_copyFrom_125 : decode cX8_copyFrom 125 = .ok (.iconst 0, 1) := by decide +kernel
theorem dX8_copyFrom_126 : decode cX8_copyFrom 126 = .ok (.aload_n 0, 1) := by decide +kernel
theorem dX8_copyFrom_127 : decode cX8_copyFrom 127 = .ok (.getfield 37, 3) := by decide +kernel
theorem dX8_copyFrom_130 : decode cX8_copyFrom 130 = .ok (.iconst 0, 1) := by decide +kernel
theorem dX8_copyFrom_131 : decode cX8_copyFrom 131 = .ok (.bipush 10, 2) := by decide +kernel
theorem dX8_copyFrom_133 : decode cX8_copyFrom 133 = .ok (.invokestatic 47, 3) := by decide +kernel
theorem dX8_copyFrom_136 : decode cX8_copyFrom 136 = .ok (.return_, 1) := by decide +kernel
theorem dX8_putNearest_0 : decode cX8_putNearest 0 = .ok (.aload_n 0, 1) := by decide +kernel
theorem dX8_putNearest_1 : decode cX8_putNearest 1 = .ok (.getfield 37, 3) := by decide +kernel
theorem dX8_putNearest_4 : decode cX8_putNearest 4 = .ok (.iload_n 1, 1) := by decide +kernel
theorem dX8_putNearest_5 : decode cX8_putNearest 5 = .ok (.aload_n 0, 1) := by decide +kernel
theorem dX8_putNearest_6 : decode cX8_putNearest 6 = .ok (.getfield 31, 3) := by decide +kernel
theorem dX8_putNearest_9 : decode cX8_putNearest 9 = .ok (.iload_n 1, 1) := by decide +kernel
theorem dX8_putNearest_10 : decode cX8_putNearest 10 = .ok (.iaload, 1) := by decide +kernel
theorem dX8_putNearest_11 : decode cX8_putNearest 11 = .ok (.aload_n 0, 1) := by decide +kernel
theorem dX8_putNearest_12 : decode cX8_putNearest 12 = .ok (.getfield 34, 3) := by decide +kernel
theorem dX8_putNearest_15 : decode cX8_putNearest 15 = .ok (.iload_n 1, 1) := by decide +kernel
theorem dX8_putNearest_16 : decode cX8_putNearest 16 = .ok (.iaload, 1) := by decide +kernel
theorem dX8_putNearest_17 : decode cX8_putNearest 17 = .ok (.iload_n 2, 1) := by decide +kernel
theorem dX8_putNearest_18 : decode cX8_putNearest 18 = .ok (.invokestatic 53, 3) := by decide +kernel
theorem dX8_putNearest_21 : decode cX8_putNearest 21 = .ok (.invokestatic 59, 3) := by decide +kernel
theorem dX8_putNearest_24 : decode cX8_putNearest 24 = .ok (.iastore, 1) := by decide +kernel
theorem dX8_putNearest_25 : decode cX8_putNearest 25 = .ok (.aload_n 0, 1) := by decide +kernel
theorem dX8_putNearest_26 : decode cX8_putNearest 26 = .ok (.getfield 37, 3) := by decide +kernel
theorem dX8_putNearest_29 : decode cX8_putNearest 29 = .ok (.iload_n 1, 1) := by decide +kernel
theorem dX8_putNearest_30 : decode cX8_putNearest 30 = .ok (.iaload, 1) := by decide +kernel
theorem dX8_putNearest_31 : decode cX8_putNearest 31 = .ok (.iload_n 2, 1) := by decide +kernel
theorem dX8_putNearest_32 : decode cX8_putNearest 32 = .ok (.if_icmp .ne 7, 3) := by decide +kernel
theorem dX8_putNearest_35 : decode cX8_putNearest 35 = .ok (.iconst 0, 1) := by decide +kernel
theorem dX8_putNearest_36 : decode cX8_putNearest 36 = .ok (.goto 4, 3) := by decide +kernel
theorem dX8_putNearest_39 : decode cX8_putNearest 39 = .ok (.iconst 1, 1) := by decide +kernel
theorem dX8_putNearest_40 : decode cX8_putNearest 40 = .ok (.ireturn, 1) := by decide +kernel
theorem dX8_thiefByHand_0 : decode cX8_thiefByHand 0 = .ok (.bipush 60, 2) := by decide +kernel
theorem dX8_thiefByHand_2 : decode cX8_thiefByHand 2 = .ok (.aload_n 0, 1) := by decide +kernel
theorem dX8_thiefByHand_3 : decode cX8_thiefByHand 3 = .ok (.getfield 25, 3) := by decide +kernel
theorem dX8_thiefByHand_6 : decode cX8_thiefByHand 6 = .ok (.iload_n 1, 1) := by decide +kernel
theorem dX8_thiefByHand_7 : decode cX8_thiefByHand 7 = .ok (.iaload, 1) := by decide +kernel
theorem dX8_thiefByHand_8 : decode cX8_thiefByHand 8 = .ok (.imul, 1) := by decide +kernel
theorem dX8_thiefByHand_9 : decode cX8_thiefByHand 9 = .ok (.aload_n 0, 1) := by decide +kernel
theorem dX8_thiefByHand_10 : decode cX8_thiefByHand 10 = .ok (.getfield 37, 3) := by decide +kernel
theorem dX8_thiefByHand_13 : decode cX8_thiefByHand 13 = .ok (.iload_n 1, 1) := by decide +kernel
theorem dX8_thiefByHand_14 : decode cX8_thiefByHand 14 = .ok (.iaload, 1) := by decide +kernel
theorem dX8_thiefByHand_15 : decode cX8_thiefByHand 15 = .ok (.aload_n 0, 1) := by decide +kernel
theorem dX8_thiefByHand_16 : decode cX8_thiefByHand 16 = .ok (.getfield 28, 3) := by decide +kernel
theorem dX8_thiefByHand_19 : decode cX8_thiefByHand 19 = .ok (.iload_n 1, 1) := by decide +kernel
theorem dX8_thiefByHand_20 : decode cX8_thiefByHand 20 = .ok (.iaload, 1) := by decide +kernel
theorem dX8_thiefByHand_21 : decode cX8_thiefByHand 21 = .ok (.imul, 1) := by decide +kernel
theorem dX8_thiefByHand_22 : decode cX8_thiefByHand 22 = .ok (.isub, 1) := by decide +kernel
theorem dX8_thiefByHand_23 : decode cX8_thiefByHand 23 = .ok (.ireturn, 1) := by decide +kernel
theorem dX8_keeperByHand_0 : decode cX8_keeperByHand 0 = .ok (.bipush 60, 2) := by decide +kernel
theorem dX8_keeperByHand_2 : decode cX8_keeperByHand 2 = .ok (.aload_n 0, 1) := by decide +kernel
theorem dX8_keeperByHand_3 : decode cX8_keeperByHand 3 = .ok (.getfield 22, 3) := by decide +kernel
theorem dX8_keeperByHand_6 : decode cX8_keeperByHand 6 = .ok (.iload_n 1, 1) := by decide +kernel
theorem dX8_keeperByHand_7 : decode cX8_keeperByHand 7 = .ok (.iaload, 1) := by decide +kernel
theorem dX8_keeperByHand_8 : decode cX8_keeperByHand 8 = .ok (.imul, 1) := by decide +kernel
theorem dX8_keeperByHand_9 : decode cX8_keeperByHand 9 = .ok (.aload_n 0, 1) := by decide +kernel
theorem dX8_keeperByHand_10 : decode cX8_keeperByHand 10 = .ok (.getfield 37, 3) := by decide +kernel
theorem dX8_keeperByHand_13 : decode cX8_keeperByHand 13 = .ok (.iload_n 1, 1) := by decide +kernel
theorem dX8_keeperByHand_14 : decode cX8_keeperByHand 14 = .ok (.iaload, 1) := by decide +kernel
theorem dX8_keeperByHand_15 : decode cX8_keeperByHand 15 = .ok (.aload_n 0, 1) := by decide +kernel
theorem dX8_keeperByHand_16 : decode cX8_keeperByHand 16 = .ok (.getfield 19, 3) := by decide +kernel
theorem dX8_keeperByHand_19 : decode cX8_keeperByHand 19 = .ok (.iload_n 1, 1) := by decide +kernel
theorem dX8_keeperByHand_20 : decode cX8_keeperByHand 20 = .ok (.iaload, 1) := by decide +kernel
theorem dX8_keeperByHand_21 : decode cX8_keeperByHand 21 = .ok (.aload_n 0, 1) := by decide +kernel
theorem dX8_keeperByHand_22 : decode cX8_keeperByHand 22 = .ok (.getfield 22, 3) := by decide +kernel
theorem dX8_keeperByHand_25 : decode cX8_keeperByHand 25 = .ok (.iload_n 1, 1) := by decide +kernel
theorem dX8_keeperByHand_26 : decode cX8_keeperByHand 26 = .ok (.iaload, 1) := by decide +kernel
theorem dX8_keeperByHand_27 : decode cX8_keeperByHand 27 = .ok (.isub, 1) := by decide +kernel
theorem dX8_keeperByHand_28 : decode cX8_keeperByHand 28 = .ok (.imul, 1) := by decide +kernel
theorem dX8_keeperByHand_29 : decode cX8_keeperByHand 29 = .ok (.iadd, 1) := by decide +kernel
theorem dX8_keeperByHand_30 : decode cX8_keeperByHand 30 = .ok (.ireturn, 1) := by decide +kernel
set_option maxRecDepth 20000 in
theorem ggX8_goalByHand_X8_thiefByHand : GoodIn wsX8_goalByHand wsX8_thiefByHand := goodIn_r _ [6, 7, 8, 9, 16, 17, 18, 19, 20, 21, 22, 23, 24, 25] (by decide +kernel) (by decide +kernel)
set_option maxRecDepth 20000 in
theorem gX8_goalByHand_X8_thiefByHand : GoodIn wsX8_goalByHand (wsV RX8 62 RX8 yX8_thiefByHand wsX8_thiefByHand) := goodIn_app (goodIn_of _ (by decide +kernel)) ggX8_goalByHand_X8_thiefByHand
set_option maxRecDepth 20000 in
theorem ggX8_goalByHand_X8_keeperByHand : GoodIn wsX8_goalByHand wsX8_keeperByHand := goodIn_r _ [13, 14, 8, 15, 16, 17, 18, 19, 20, 21, 22, 23, 24, 25] (by decide +kernel) (by decide +kernel)
set_option maxRecDepth 20000 in
theorem gX8_goalByHand_X8_keeperByHand : GoodIn wsX8_goalByHand (wsV RX8 66 RX8 yX8_keeperByHand wsX8_keeperByHand) := goodIn_app (goodIn_of _ (by decide +kernel)) ggX8_goalByHand_X8_keeperByHand
theorem dX8_goalByHand_0 : decode cX8_goalByHand 0 = .ok (.iconst 0, 1) := by decide +kernel
theorem dX8_goalByHand_1 : decode cX8_goalByHand 1 = .ok (.istore_n 1, 1) := by decide +kernel
theorem dX8_goalByHand_2 : decode cX8_goalByHand 2 = .ok (.iconst 1, 1) := by decide +kernel
theorem dX8_goalByHand_3 : decode cX8_goalByHand 3 = .ok (.istore_n 2, 1) := by decide +kernel
theorem dX8_goalByHand_4 : decode cX8_goalByHand 4 = .ok (.iload_n 2, 1) := by decide +kernel
theorem dX8_goalByHand_5 : decode cX8_goalByHand 5 = .ok (.aload_n 0, 1) := by decide +kernel
theorem dX8_goalByHand_6 : decode cX8_goalByHand 6 = .ok (.getfield 40, 3) := by decide +kernel
theorem dX8_goalByHand_9 : decode cX8_goalByHand 9 = .ok (.if_icmp .ge 44, 3) := by decide +kernel
theorem dX8_goalByHand_12 : decode cX8_goalByHand 12 = .ok (.aload_n 0, 1) := by decide +kernel
theorem dX8_goalByHand_13 : decode cX8_goalByHand 13 = .ok (.iload_n 2, 1) := by decide +kernel
theorem dX8_goalByHand_14 : decode cX8_goalByHand 14 = .ok (.invokevirtual 62, 3) := by decide +kernel
theorem dX8_goalByHand_17 : decode cX8_goalByHand 17 = .ok (.aload_n 0, 1) := by decide +kernel
theorem dX8_goalByHand_18 : decode cX8_goalByHand 18 = .ok (.iload_n 1, 1) := by decide +kernel
theorem dX8_goalByHand_19 : decode cX8_goalByHand 19 = .ok (.invokevirtual 62, 3) := by decide +kernel
theorem dX8_goalByHand_22 : decode cX8_goalByHand 22 = .ok (.isub, 1) := by decide +kernel
theorem dX8_goalByHand_23 : decode cX8_goalByHand 23 = .ok (.istore_n 3, 1) := by decide +kernel
theorem dX8_goalByHand_24 : decode cX8_goalByHand 24 = .ok (.iload_n 3, 1) := by decide +kernel
theorem dX8_goalByHand_25 : decode cX8_goalByHand 25 = .ok (.ifCond .gt 20, 3) := by decide +kernel
theorem dX8_goalByHand_28 : decode cX8_goalByHand 28 = .ok (.iload_n 3, 1) := by decide +kernel
theorem dX8_goalByHand_29 : decode cX8_goalByHand 29 = .ok (.ifCond .ne 18, 3) := by decide +kernel
theorem dX8_goalByHand_32 : decode cX8_goalByHand 32 = .ok (.aload_n 0, 1) := by decide +kernel
theorem dX8_goalByHand_33 : decode cX8_goalByHand 33 = .ok (.iload_n 2, 1) := by decide +kernel
theorem dX8_goalByHand_34 : decode cX8_goalByHand 34 = .ok (.invokevirtual 66, 3) := by decide +kernel
theorem dX8_goalByHand_37 : decode cX8_goalByHand 37 = .ok (.aload_n 0, 1) := by decide +kernel
theorem dX8_goalByHand_38 : decode cX8_goalByHand 38 = .ok (.iload_n 1, 1) := by decide +kernel
theorem dX8_goalByHand_39 : decode cX8_goalByHand 39 = .ok (.invokevirtual 66, 3) := by decide +kernel
theorem dX8_goalByHand_42 : decode cX8_goalByHand 42 = .ok (.if_icmp .le 5, 3) := by decide +kernel
theorem dX8_goalByHand_45 : decode cX8_goalByHand 45 = .ok (.iload_n 2, 1) := by decide +kernel
theorem dX8_goalByHand_46 : decode cX8_goalByHand 46 = .ok (.istore_n 1, 1) := by decide +kernel
theorem dX8_goalByHand_47 : decode cX8_goalByHand 47 = .ok (.iinc 2 1, 3) := by decide +kernel
theorem dX8_goalByHand_50 : decode cX8_goalByHand 50 = .ok (.goto (-46), 3) := by decide +kernel
theorem dX8_goalByHand_53 : decode cX8_goalByHand 53 = .ok (.iload_n 1, 1) := by decide +kernel
theorem dX8_goalByHand_54 : decode cX8_goalByHand 54 = .ok (.ireturn, 1) := by decide +kernel
set_option maxRecDepth 20000 in
theorem ggX8_worstByHand_X8_goalByHand : GoodIn wsX8_worstByHand wsX8_goalByHand := goodIn_r _ [10, 1, 11, 12, 13, 9, 14, 15, 16, 17, 18, 19, 20, 21, 22, 23, 24, 25, 26, 27, 28, 29, 30, 31, 32, 33] (by decide +kernel) (by decide +kernel)
set_option maxRecDepth 20000 in
theorem gX8_worstByHand_X8_goalByHand : GoodIn wsX8_worstByHand (wsV RX8 69 RX8 yX8_goalByHand wsX8_goalByHand) := goodIn_app (goodIn_of _ (by decide +kernel)) ggX8_worstByHand_X8_goalByHand
set_option maxRecDepth 20000 in
theorem ggX8_worstByHand_X8_thiefByHand : GoodIn wsX8_worstByHand wsX8_thiefByHand := goodIn_r _ [14, 15, 16, 17, 24, 25, 26, 27, 28, 29, 30, 31, 32, 33] (by decide +kernel) (by decide +kernel)
set_option maxRecDepth 20000 in
theorem gX8_worstByHand_X8_thiefByHand : GoodIn wsX8_worstByHand (wsV RX8 62 RX8 yX8_thiefByHand wsX8_thiefByHand) := goodIn_app (goodIn_of _ (by decide +kernel)) ggX8_worstByHand_X8_thiefByHand
set_option maxRecDepth 20000 in
theorem ggX8_worstByHand_X8_keeperByHand : GoodIn wsX8_worstByHand wsX8_keeperByHand := goodIn_r _ [21, 22, 16, 23, 24, 25, 26, 27, 28, 29, 30, 31, 32, 33] (by decide +kernel) (by decide +kernel)
set_option maxRecDepth 20000 in
theorem gX8_worstByHand_X8_keeperByHand : GoodIn wsX8_worstByHand (wsV RX8 66 RX8 yX8_keeperByHand wsX8_keeperByHand) := goodIn_app (goodIn_of _ (by decide +kernel)) ggX8_worstByHand_X8_keeperByHand
theorem dX8_worstByHand_0 : decode cX8_worstByHand 0 = .ok (.aload_n 0, 1) := by decide +kernel
theorem dX8_worstByHand_1 : decode cX8_worstByHand 1 = .ok (.invokevirtual 69, 3) := by decide +kernel
theorem dX8_worstByHand_4 : decode cX8_worstByHand 4 = .ok (.istore_n 2, 1) := by decide +kernel
theorem dX8_worstByHand_5 : decode cX8_worstByHand 5 = .ok (.aload_n 0, 1) := by decide +kernel
theorem dX8_worstByHand_6 : decode cX8_worstByHand 6 = .ok (.iload_n 2, 1) := by decide +kernel
theorem dX8_worstByHand_7 : decode cX8_worstByHand 7 = .ok (.invokevirtual 62, 3) := by decide +kernel
theorem dX8_worstByHand_10 : decode cX8_worstByHand 10 = .ok (.iload_n 1, 1) := by decide +kernel
theorem dX8_worstByHand_11 : decode cX8_worstByHand 11 = .ok (.isub, 1) := by decide +kernel
theorem dX8_worstByHand_12 : decode cX8_worstByHand 12 = .ok (.istore_n 3, 1) := by decide +kernel
theorem dX8_worstByHand_13 : decode cX8_worstByHand 13 = .ok (.aload_n 0, 1) := by decide +kernel
theorem dX8_worstByHand_14 : decode cX8_worstByHand 14 = .ok (.iload_n 2, 1) := by decide +kernel
theorem dX8_worstByHand_15 : decode cX8_worstByHand 15 = .ok (.invokevirtual 66, 3) := by decide +kernel
theorem dX8_worstByHand_18 : decode cX8_worstByHand 18 = .ok (.istore 4, 2) := by decide +kernel
theorem dX8_worstByHand_20 : decode cX8_worstByHand 20 = .ok (.iconst 0, 1) := by decide +kernel
theorem dX8_worstByHand_21 : decode cX8_worstByHand 21 = .ok (.istore 5, 2) := by decide +kernel
theorem dX8_worstByHand_23 : decode cX8_worstByHand 23 = .ok (.iload 5, 2) := by decide +kernel
theorem dX8_worstByHand_25 : decode cX8_worstByHand 25 = .ok (.aload_n 0, 1) := by decide +kernel
theorem dX8_worstByHand_26 : decode cX8_worstByHand 26 = .ok (.getfield 40, 3) := by decide +kernel
theorem dX8_worstByHand_29 : decode cX8_worstByHand 29 = .ok (.if_icmp .ge 32, 3) := by decide +kernel
theorem dX8_worstByHand_32 : decode cX8_worstByHand 32 = .ok (.aload_n 0, 1) := by decide +kernel
theorem dX8_worstByHand_33 : decode cX8_worstByHand 33 = .ok (.iload 5, 2) := by decide +kernel
theorem dX8_worstByHand_35 : decode cX8_worstByHand 35 = .ok (.invokevirtual 62, 3) := by decide +kernel
theorem dX8_worstByHand_38 : decode cX8_worstByHand 38 = .ok (.iload_n 3, 1) := by decide +kernel
theorem dX8_worstByHand_39 : decode cX8_worstByHand 39 = .ok (.if_icmp .lt 16, 3) := by decide +kernel
theorem dX8_worstByHand_42 : decode cX8_worstByHand 42 = .ok (.iload 4, 2) := by decide +kernel
theorem dX8_worstByHand_44 : decode cX8_worstByHand 44 = .ok (.aload_n 0, 1) := by decide +kernel
theorem dX8_worstByHand_45 : decode cX8_worstByHand 45 = .ok (.iload 5, 2) := by decide +kernel
theorem dX8_worstByHand_47 : decode cX8_worstByHand 47 = .ok (.invokevirtual 66, 3) := by decide +kernel
theorem dX8_worstByHand_50 : decode cX8_worstByHand 50 = .ok (.invokestatic 53, 3) := by decide +kernel
theorem dX8_worstByHand_53 : decode cX8_worstByHand 53 = .ok (.istore 4, 2) := by decide +kernel
theorem dX8_worstByHand_55 : decode cX8_worstByHand 55 = .ok (.iinc 5 1, 3) := by decide +kernel
theorem dX8_worstByHand_58 : decode cX8_worstByHand 58 = .ok (.goto (-35), 3) := by decide +kernel
theorem dX8_worstByHand_61 : decode cX8_worstByHand 61 = .ok (.iload 4, 2) := by decide +kernel
theorem dX8_worstByHand_63 : decode cX8_worstByHand 63 = .ok (.ireturn, 1) := by decide +kernel
set_option maxRecDepth 20000 in
theorem ggX9_init_X4_init : GoodIn wsX9_init wsX4_init := goodIn_r _ [15, 16, 2, 3, 11, 17, 18, 19] (by decide +kernel) (by decide +kernel)
set_option maxRecDepth 20000 in
theorem gX9_init_X4_init_n13 : GoodIn wsX9_init (wsX4_init) := ggX9_init_X4_init
theorem dX9_init_0 : decode cX9_init 0 = .ok (.aload_n 0, 1) := by decide +kernel
theorem dX9_init_1 : decode cX9_init 1 = .ok (.invokespecial 5, 3) := by decide +kernel
theorem dX9_init_4 : decode cX9_init 4 = .ok (.aload_n 0, 1) := by decide +kernel
theorem dX9_init_5 : decode cX9_init 5 = .ok (.new 11, 3) := by decide +kernel
theorem dX9_init_8 : decode cX9_init 8 = .ok (.dup, 1) := by decide +kernel
theorem dX9_init_9 : decode cX9_init 9 = .ok (.invokespecial 13, 3) := by decide +kernel
theorem dX9_init_12 : decode cX9_init 12 = .ok (.putfield 14, 3) := by decide +kernel
theorem dX9_init_15 : decode cX9_init 15 = .ok (.aload_n 0, 1) := by decide +kernel
theorem dX9_init_16 : decode cX9_init 16 = .ok (.sipush 512, 3) := by decide +kernel
theorem dX9_init_19 : decode cX9_init 19 = .ok (.newarray .long, 2) := by decide +kernel
theorem dX9_init_21 : decode cX9_init 21 = .ok (.putfield 18, 3) := by decide +kernel
theorem dX9_init_24 : decode cX9_init 24 = .ok (.aload_n 0, 1) := by decide +kernel
theorem dX9_init_25 : decode cX9_init 25 = .ok (.sipush 512, 3) := by decide +kernel
theorem dX9_init_28 : decode cX9_init 28 = .ok (.newarray .long, 2) := by decide +kernel
theorem dX9_init_30 : decode cX9_init 30 = .ok (.putfield 22, 3) := by decide +kernel
theorem dX9_init_33 : decode cX9_init 33 = .ok (.aload_n 0, 1) := by decide +kernel
theorem dX9_init_34 : decode cX9_init 34 = .ok (.sipush 256, 3) := by decide +kernel
theorem dX9_init_37 : decode cX9_init 37 = .ok (.newarray .int, 2) := by decide +kernel
theorem dX9_init_39 : decode cX9_init 39 = .ok (.putfield 25, 3) := by decide +kernel
theorem dX9_init_42 : decode cX9_init 42 = .ok (.aload_n 0, 1) := by decide +kernel
theorem dX9_init_43 : decode cX9_init 43 = .ok (.sipush 256, 3) := by decide +kernel
theorem dX9_init_46 : decode cX9_init 46 = .ok (.newarray .int, 2) := by decide +kernel
theorem dX9_init_48 : decode cX9_init 48 = .ok (.putfield 29, 3) := by decide +kernel
theorem dX9_init_51 : decode cX9_init 51 = .ok (.return_, 1) := by decide +kernel
set_option maxRecDepth 20000 in
theorem ggX9_make_X4_isLike : GoodIn wsX9_make wsX4_isLike := goodIn_r _ [10, 11, 12, 64, 65] (by decide +kernel) (by decide +kernel)
set_option maxRecDepth 20000 in
theorem gX9_make_X4_isLike : GoodIn wsX9_make (wsV RX9 32 RX4 yX4_isLike wsX4_isLike) := goodIn_app (goodIn_of _ (by decide +kernel)) ggX9_make_X4_isLike
set_option maxRecDepth 20000 in
theorem ggX9_make_X4_copyFrom : GoodIn wsX9_make wsX4_copyFrom := goodIn_r _ [16, 11, 12, 17, 18, 19, 20, 64, 65] (by decide +kernel) (by decide +kernel)
set_option maxRecDepth 20000 in
theorem gX9_make_X4_copyFrom : GoodIn wsX9_make (wsV RX9 36 RX4 yX4_copyFrom wsX4_copyFrom) := goodIn_app (goodIn_of _ (by decide +kernel)) ggX9_make_X4_copyFrom
set_option maxRecDepth 20000 in
theorem ggX9_make_J7_fill_d0a16 : GoodIn wsX9_make wsJ7_fill_d0a16 := goodIn_r _ [24] (by decide +kernel) (by decide +kernel)
set_option maxRecDepth 20000 in
theorem gX9_make_J7_fill_d0a16 : GoodIn wsX9_make (va_wsS RX9 40 yJ7_fill_d0a16 wsJ7_fill_d0a16) := goodIn_app (goodIn_of _ (by decide +kernel)) ggX9_make_J7_fill_d0a16
set_option maxRecDepth 20000 in
theorem ggX9_make_X9_fullState : GoodIn wsX9_make wsX9_fullState := goodIn_r _ [29, 1, 30, 31, 57, 58, 59, 60, 61, 62, 63, 64, 65] (by decide +kernel) (by decide +kernel)
set_option maxRecDepth 20000 in
theorem gX9_make_X9_fullState : GoodIn wsX9_make (wsV RX9 50 RX9 yX9_fullState wsX9_fullState) := goodIn_app (goodIn_of _ (by decide +kernel)) ggX9_make_X9_fullState
set_option maxRecDepth 20000 in
theorem ggX9_make_X9_push : GoodIn wsX9_make wsX9_push := goodIn_r _ [35, 4, 3, 36, 37, 38, 39, 28, 40, 57, 58, 59, 60, 61, 62, 63] (by decide +kernel) (by decide +kernel)
set_option maxRecDepth 20000 in
theorem gX9_make_X9_push : GoodIn wsX9_make (wsV RX9 54 RX9 yX9_push wsX9_push) := goodIn_app (goodIn_of _ (by decide +kernel)) ggX9_make_X9_push
set_option maxRecDepth 20000 in
theorem ggX9_make_X9_advance : GoodIn wsX9_make wsX9_advance := goodIn_r _ [44, 4, 36, 37, 1, 30, 2, 3, 45, 38, 39, 28, 40, 46, 47, 48, 49, 31, 50, 51, 52, 53, 54, 55, 56, 32, 33, 34, 35, 57, 58, 59, 60, 61, 62, 63, 64, 65] (by decide +kernel) (by decide +kernel)
set_option maxRecDepth 20000 in
theorem gX9_make_X9_advance : GoodIn wsX9_make (wsV RX9 59 RX9 yX9_advance wsX9_advance) := goodIn_app (goodIn_of _ (by decide +kernel)) ggX9_make_X9_advance
theorem dX9_make_0 : decode cX9_make 0 = .ok (.aload_n 0, 1) := by decide +kernel
theorem dX9_make_1 : decode cX9_make 1 = .ok (.getfield 14, 3) := by decide +kernel
theorem dX9_make_4 : decode cX9_make 4 = .ok (.aload_n 1, 1) := by decide +kernel
theorem dX9_make_5 : decode cX9_make 5 = .ok (.invokevirtual 32, 3) := by decide +kernel
theorem dX9_make_8 : decode cX9_make 8 = .ok (.ifCond .eq 4, 3) := by decide +kernel
theorem dX9_make_11 : decode cX9_make 11 = .ok (.return_, 1) := by decide +kernel
theorem dX9_make_12 : decode cX9_make 12 = .ok (.aload_n 0, 1) := by decide +kernel
theorem dX9_make_13 : decode cX9_make 13 = .ok (.getfield 14, 3) := by decide +kernel
theorem dX9_make_16 : decode cX9_make 16 = .ok (.aload_n 1, 1) := by decide +kernel
theorem dX9_make_17 : decode cX9_make 17 = .ok (.invokevirtual 36, 3) := by decide +kernel
theorem dX9_make_20 : decode cX9_make 20 = .ok (.aload_n 0, 1) := by decide +kernel
theorem dX9_make_21 : decode cX9_make 21 = .ok (.getfield 18, 3) := by decide +kernel
theorem dX9_make_24 : decode cX9_make 24 = .ok (.lconst 0, 1) := by decide +kernel
theorem dX9_make_25 : decode cX9_make 25 = .ok (.invokestatic 40, 3) := by decide +kernel
theorem dX9_make_28 : decode cX9_make 28 = .ok (.aload_n 0, 1) := by decide +kernel
theorem dX9_make_29 : decode cX9_make 29 = .ok (.getfield 22, 3) := by decide +kernel
theorem dX9_make_32 : decode cX9_make 32 = .ok (.lconst 0, 1) := by decide +kernel
theorem dX9_make_33 : decode cX9_make 33 = .ok (.invokestatic 40, 3) := by decide +kernel
theorem dX9_make_36 : decode cX9_make 36 = .ok (.aload_n 0, 1) := by decide +kernel
theorem dX9_make_37 : decode cX9_make 37 = .ok (.iconst 0, 1) := by decide +kernel
theorem dX9_make_38 : decode cX9_make 38 = .ok (.putfield 46, 3) := by decide +kernel
theorem dX9_make_41 : decode cX9_make 41 = .ok (.aload_n 0, 1) := by decide +kernel
theorem dX9_make_42 : decode cX9_make 42 = .ok (.aload_n 0, 1) := by decide +kernel
theorem dX9_make_43 : decode cX9_make 43 = .ok (.invokevirtual 50, 3) := by decide +kernel
theorem dX9_make_46 : decode cX9_make 46 = .ok (.invokevirtual 54, 3) := by decide +kernel
theorem dX9_make_49 : decode cX9_make 49 = .ok (.iconst 0, 1) := by decide +kernel
theorem dX9_make_50 : decode cX9_make 50 = .ok (.istore_n 2, 1) := by decide +kernel
theorem dX9_make_51 : decode cX9_make 51 = .ok (.iconst 0, 1) := by decide +kernel
theorem dX9_make_52 : decode cX9_make 52 = .ok (.istore_n 3, 1) := by decide +kernel
theorem dX9_make_53 : decode cX9_make 53 = .ok (.iload_n 3, 1) := by decide +kernel
theorem dX9_make_54 : decode cX9_make 54 = .ok (.ldc 58, 2) := by decide +kernel
theorem dX9_make_56 : decode cX9_make 56 = .ok (.if_icmp .ge 25, 3) := by decide +kernel
theorem dX9_make_59 : decode cX9_make 59 = .ok (.aload_n 0, 1) := by decide +kernel
theorem dX9_make_60 : decode cX9_make 60 = .ok (.getfield 46, 3) := by decide +kernel
theorem dX9_make_63 : decode cX9_make 63 = .ok (.ifCond .le 18, 3) := by decide +kernel
theorem dX9_make_66 : decode cX9_make 66 = .ok (.iload_n 2, 1) := by decide +kernel
theorem dX9_make_67 : decode cX9_make 67 = .ok (.ifCond .ne 14, 3) := by decide +kernel
theorem dX9_make_70 : decode cX9_make 70 = .ok (.aload_n 0, 1) := by decide +kernel
theorem dX9_make_71 : decode cX9_make 71 = .ok (.invokevirtual 59, 3) := by decide +kernel
theorem dX9_make_74 : decode cX9_make 74 = .ok (.istore_n 2, 1) := by decide +kernel
theorem dX9_make_75 : decode cX9_make 75 = .ok (.iinc 3 1, 3) := by decide +kernel
theorem dX9_make_78 : decode cX9_make 78 = .ok (.goto (-25), 3) := by decide +kernel
theorem dX9_make_81 : decode cX9_make 81 = .ok (.iload_n 2, 1) := by decide +kernel
theorem dX9_make_82 : decode cX9_make 82 = .ok (.ifCond .ne 8, 3) := by decide +kernel
theorem dX9_make_85 : decode cX9_make 85 = .ok (.aload_n 0, 1) := by decide +kernel
theorem dX9_make_86 : decode cX9_make 86 = .ok (.iconst 0, 1) := by decide +kernel
theorem dX9_make_87 : decode cX9_make 87 = .ok (.putfield 46, 3) := by decide +kernel
theorem dX9_make_90 : decode cX9_make 90 = .ok (.return_, 1) := by decide +kernel
theorem dX9_postAt_0 : decode cX9_postAt 0 = .ok (.aload_n 0, 1) := by decide +kernel
theorem dX9_postAt_1 : decode cX9_postAt 1 = .ok (.getfield 46, 3) := by decide +kernel
theorem dX9_postAt_4 : decode cX9_postAt 4 = .ok (.aload_n 0, 1) := by decide +kernel
theorem dX9_postAt_5 : decode cX9_postAt 5 = .ok (.getfield 63, 3) := by decide +kernel
theorem dX9_postAt_8 : decode cX9_postAt 8 = .ok (.isub, 1) := by decide +kernel
theorem dX9_postAt_9 : decode cX9_postAt 9 = .ok (.istore_n 2, 1) := by decide +kernel
theorem dX9_postAt_10 : decode cX9_postAt 10 = .ok (.aload_n 0, 1) := by decide +kernel
theorem dX9_postAt_11 : decode cX9_postAt 11 = .ok (.getfield 46, 3) := by decide +kernel
theorem dX9_postAt_14 : decode cX9_postAt 14 = .ok (.ifCond .le 7, 3) := by decide +kernel
theorem dX9_postAt_17 : decode cX9_postAt 17 = .ok (.iload_n 2, 1) := by decide +kernel
theorem dX9_postAt_18 : decode cX9_postAt 18 = .ok (.ifCond .gt 6, 3) := by decide +kernel
theorem dX9_postAt_21 : decode cX9_postAt 21 = .ok (.ldc 66, 2) := by decide +kernel
theorem dX9_postAt_23 : decode cX9_postAt 23 = .ok (.ireturn, 1) := by decide +kernel
theorem dX9_postAt_24 : decode cX9_postAt 24 = .ok (.iload_n 1, 1) := by decide +kernel
theorem dX9_postAt_25 : decode cX9_postAt 25 = .ok (.aload_n 0, 1) := by decide +kernel
theorem dX9_postAt_26 : decode cX9_postAt 26 = .ok (.getfield 46, 3) := by decide +kernel
theorem dX9_postAt_29 : decode cX9_postAt 29 = .ok (.if_icmp .ge 12, 3) := by decide +kernel
theorem dX9_postAt_32 : decode cX9_postAt 32 = .ok (.aload_n 0, 1) := by decide +kernel
theorem dX9_postAt_33 : decode cX9_postAt 33 = .ok (.getfield 29, 3) := by decide +kernel
theorem dX9_postAt_36 : decode cX9_postAt 36 = .ok (.iload_n 1, 1) := by decide +kernel
theorem dX9_postAt_37 : decode cX9_postAt 37 = .ok (.iaload, 1) := by decide +kernel
theorem dX9_postAt_38 : decode cX9_postAt 38 = .ok (.goto 21, 3) := by decide +kernel
theorem dX9_postAt_41 : decode cX9_postAt 41 = .ok (.aload_n 0, 1) := by decide +kernel
theorem dX9_postAt_42 : decode cX9_postAt 42 = .ok (.getfield 29, 3) := by decide +kernel
theorem dX9_postAt_45 : decode cX9_postAt 45 = .ok (.aload_n 0, 1) := by decide +kernel
theorem dX9_postAt_46 : decode cX9_postAt 46 = .ok (.getfield 63, 3) := by decide +kernel
theorem dX9_postAt_49 : decode cX9_postAt 49 = .ok (.iload_n 1, 1) := by decide +kernel
theorem dX9_postAt_50 : decode cX9_postAt 50 = .ok (.aload_n 0, 1) := by decide +kernel
theorem dX9_postAt_51 : decode cX9_postAt 51 = .ok (.getfield 63, 3) := by decide +kernel
theorem dX9_postAt_54 : decode cX9_postAt 54 = .ok (.isub, 1) := by decide +kernel
theorem dX9_postAt_55 : decode cX9_postAt 55 = .ok (.iload_n 2, 1) := by decide +kernel
theorem dX9_postAt_56 : decode cX9_postAt 56 = .ok (.irem, 1) := by decide +kernel
theorem dX9_postAt_57 : decode cX9_postAt 57 = .ok (.iadd, 1) := by decide +kernel
theorem dX9_postAt_58 : decode cX9_postAt 58 = .ok (.iaload, 1) := by decide +kernel
theorem dX9_postAt_59 : decode cX9_postAt 59 = .ok (.ireturn, 1) := by decide +kernel
set_option maxRecDepth 20000 in
theorem ggX9_advance_X9_mark : GoodIn wsX9_advance wsX9_mark := goodIn_r _ [12] (by decide +kernel) (by decide +kernel)
set_option maxRecDepth 20000 in
theorem gX9_advance_X9_mark : GoodIn wsX9_advance (va_wsS RX9 68 yX9_mark wsX9_mark) := goodIn_app (goodIn_of _ (by decide +kernel)) ggX9_advance_X9_mark
set_option maxRecDepth 20000 in
theorem ggX9_advance_X9_stateAfter : GoodIn wsX9_advance wsX9_stateAfter := goodIn_r _ [16, 4, 5, 17, 29, 30, 31, 32, 33, 34, 35, 36, 37] (by decide +kernel) (by decide +kernel)
set_option maxRecDepth 20000 in
theorem gX9_advance_X9_stateAfter : GoodIn wsX9_advance (wsV RX9 72 RX9 yX9_stateAfter wsX9_stateAfter) := goodIn_app (goodIn_of _ (by decide +kernel)) ggX9_advance_X9_stateAfter
set_option maxRecDepth 20000 in
theorem ggX9_advance_X9_isMarked : GoodIn wsX9_advance wsX9_isMarked := goodIn_r _ [20] (by decide +kernel) (by decide +kernel)
set_option maxRecDepth 20000 in
theorem gX9_advance_X9_isMarked : GoodIn wsX9_advance (va_wsS RX9 76 yX9_isMarked wsX9_isMarked) := goodIn_app (goodIn_of _ (by decide +kernel)) ggX9_advance_X9_isMarked
set_option maxRecDepth 20000 in
theorem ggX9_advance_X9_walkPlaceOf : GoodIn wsX9_advance wsX9_walkPlaceOf := goodIn_r _ [24, 1, 2, 29, 30, 31, 32, 33, 34, 35] (by decide +kernel) (by decide +kernel)
set_option maxRecDepth 20000 in
theorem gX9_advance_X9_walkPlaceOf : GoodIn wsX9_advance (wsV RX9 80 RX9 yX9_walkPlaceOf wsX9_walkPlaceOf) := goodIn_app (goodIn_of _ (by decide +kernel)) ggX9_advance_X9_walkPlaceOf
set_option maxRecDepth 20000 in
theorem ggX9_advance_X9_push : GoodIn wsX9_advance wsX9_push := goodIn_r _ [28, 1, 7, 2, 3, 9, 10, 11, 12, 29, 30, 31, 32, 33, 34, 35] (by decide +kernel) (by decide +kernel)
set_option maxRecDepth 20000 in
theorem gX9_advance_X9_push : GoodIn wsX9_advance (wsV RX9 54 RX9 yX9_push wsX9_push) := goodIn_app (goodIn_of _ (by decide +kernel)) ggX9_advance_X9_push
theorem dX9_advance_0 : decode cX9_advance 0 = .ok (.aload_n 0, 1) := by decide +kernel
theorem dX9_advance_1 : decode cX9_advance 1 = .ok (.getfield 46, 3) := by decide +kernel
theorem dX9_advance_4 : decode cX9_advance 4 = .ok (.iconst 1, 1) := by decide +kernel
theorem dX9_advance_5 : decode cX9_advance 5 = .ok (.isub, 1) := by decide +kernel
theorem dX9_advance_6 : decode cX9_advance 6 = .ok (.istore_n 1, 1) := by decide +kernel
theorem dX9_advance_7 : decode cX9_advance 7 = .ok (.aload_n 0, 1) := by decide +kernel
theorem dX9_advance_8 : decode cX9_advance 8 = .ok (.getfield 25, 3) := by decide +kernel
theorem dX9_advance_11 : decode cX9_advance 11 = .ok (.iload_n 1, 1) := by decide +kernel
theorem dX9_advance_12 : decode cX9_advance 12 = .ok (.iaload, 1) := by decide +kernel
theorem dX9_advance_13 : decode cX9_advance 13 = .ok (.istore_n 2, 1) := by decide +kernel
theorem dX9_advance_14 : decode cX9_advance 14 = .ok (.aload_n 0, 1) := by decide +kernel
theorem dX9_advance_15 : decode cX9_advance 15 = .ok (.getfield 29, 3) := by decide +kernel
theorem dX9_advance_18 : decode cX9_advance 18 = .ok (.iload_n 1, 1) := by decide +kernel
theorem dX9_advance_19 : decode cX9_advance 19 = .ok (.dup2, 1) := by decide +kernel
theorem dX9_advance_20 : decode cX9_advance 20 = .ok (.iaload, 1) := by decide +kernel
theorem dX9_advance_21 : decode cX9_advance 21 = .ok (.iconst 1, 1) := by decide +kernel
theorem dX9_advance_22 : decode cX9_advance 22 = .ok (.iadd, 1) := by decide +kernel
theorem dX9_advance_23 : decode cX9_advance 23 = .ok (.iastore, 1) := by decide +kernel
theorem dX9_advance_24 : decode cX9_advance 24 = .ok (.aload_n 0, 1) := by decide +kernel
theorem dX9_advance_25 : decode cX9_advance 25 = .ok (.getfield 29, 3) := by decide +kernel
theorem dX9_advance_28 : decode cX9_advance 28 = .ok (.iload_n 1, 1) := by decide +kernel
theorem dX9_advance_29 : decode cX9_advance 29 = .ok (.iaload, 1) := by decide +kernel
theorem dX9_advance_30 : decode cX9_advance 30 = .ok (.aload_n 0, 1) := by decide +kernel
theorem dX9_advance_31 : decode cX9_advance 31 = .ok (.getfield 14, 3) := by decide +kernel
theorem dX9_advance_34 : decode cX9_advance 34 = .ok (.getfield 67, 3) := by decide +kernel
theorem dX9_advance_37 : decode cX9_advance 37 = .ok (.if_icmp .lt 23, 3) := by decide +kernel
theorem dX9_advance_40 : decode cX9_advance 40 = .ok (.aload_n 0, 1) := by decide +kernel
theorem dX9_advance_41 : decode cX9_advance 41 = .ok (.getfield 18, 3) := by decide +kernel
theorem dX9_advance_44 : decode cX9_advance 44 = .ok (.iload_n 2, 1) := by decide +kernel
theorem dX9_advance_45 : decode cX9_advance 45 = .ok (.invokestatic 68, 3) := by decide +kernel
theorem dX9_advance_48 : decode cX9_advance 48 = .ok (.aload_n 0, 1) := by decide +kernel
theorem dX9_advance_49 : decode cX9_advance 49 = .ok (.dup, 1) := by decide +kernel
theorem dX9_advance_50 : decode cX9_advance 50 = .ok (.getfield 46, 3) := by decide +kernel
theorem dX9_advance_53 : decode cX9_advance 53 = .ok (.iconst 1, 1) := by decide +kernel
theorem dX9_advance_54 : decode cX9_advance 54 = .ok (.isub, 1) := by decide +kernel
theorem dX9_advance_55 : decode cX9_advance 55 = .ok (.putfield 46, 3) := by decide +kernel
theorem dX9_advance_58 : decode cX9_advance 58 = .ok (.iconst 0, 1) := by decide +kernel
theorem dX9_advance_59 : decode cX9_advance 59 = .ok (.ireturn, 1) := by decide +kernel
theorem dX9_advance_60 : decode cX9_advance 60 = .ok (.aload_n 0, 1) := by decide +kernel
theorem dX9_advance_61 : decode cX9_advance 61 = .ok (.iload_n 2, 1) := by decide +kernel
theorem dX9_advance_62 : decode cX9_advance 62 = .ok (.aload_n 0, 1) := by decide +kernel
theorem dX9_advance_63 : decode cX9_advance 63 = .ok (.getfield 29, 3) := by decide +kernel
theorem dX9_advance_66 : decode cX9_advance 66 = .ok (.iload_n 1, 1) := by decide +kernel
theorem dX9_advance_67 : decode cX9_advance 67 = .ok (.iaload, 1) := by decide +kernel
theorem dX9_advance_68 : decode cX9_advance 68 = .ok (.invokevirtual 72, 3) := by decide +kernel
theorem dX9_advance_71 : decode cX9_advance 71 = .ok (.istore_n 3, 1) := by decide +kernel
theorem dX9_advance_72 : decode cX9_advance 72 = .ok (.iload_n 3, 1) := by decide +kernel
theorem dX9_advance_73 : decode cX9_advance 73 = .ok (.ifCond .lt 14, 3) := by decide +kernel
theorem dX9_advance_76 : decode cX9_advance 76 = .ok (.aload_n 0, 1) := by decide +kernel
theorem dX9_advance_77 : decode cX9_advance 77 = .ok (.getfield 18, 3) := by decide +kernel
theorem dX9_advance_80 : decode cX9_advance 80 = .ok (.iload_n 3, 1) := by decide +kernel
theorem dX9_advance_81 : decode cX9_advance 81 = .ok (.invokestatic 76, 3) := by decide +kernel
theorem dX9_advance_84 : decode cX9_advance 84 = .ok (.ifCond .eq 5, 3) := by decide +kernel
theorem dX9_advance_87 : decode cX9_advance 87 = .ok (.iconst 0, 1) := by decide +kernel
theorem dX9_advance_88 : decode cX9_advance 88 = .ok (.ireturn, 1) := by decide +kernel
theorem dX9_advance_89 : decode cX9_advance 89 = .ok (.aload_n 0, 1) := by decide +kernel
theorem dX9_advance_90 : decode cX9_advance 90 = .ok (.getfield 22, 3) := by decide +kernel
theorem dX9_advance_93 : decode cX9_advance 93 = .ok (.iload_n 3, 1) := by decide +kernel
theorem dX9_advance_94 : decode cX9_advance 94 = .ok (.invokestatic 76, 3) := by decide +kernel
theorem dX9_advance_97 : decode cX9_advance 97 = .ok (.ifCond .eq 14, 3) := by decide +kernel
theorem dX9_advance_100 : decode cX9_advance 100 = .ok (.aload_n 0, 1) := by decide +kernel
theorem dX9_advance_101 : decode cX9_advance 101 = .ok (.aload_n 0, 1) := by decide +kernel
theorem dX9_advance_102 : decode cX9_advance 102 = .ok (.iload_n 3, 1) := by decide +kernel
theorem dX9_advance_103 : decode cX9_advance 103 = .ok (.invokevirtual 80, 3) := by decide +kernel
theorem dX9_advance_106 : decode cX9_advance 106 = .ok (.putfield 63, 3) := by decide +kernel
theorem dX9_advance_109 : decode cX9_advance 109 = .ok (.iconst 1, 1) := by decide +kernel
theorem dX9_advance_110 : decode cX9_advance 110 = .ok (.ireturn, 1) := by decide +kernel
theorem dX9_advance_111 : decode cX9_advance 111 = .ok (.aload_n 0, 1) := by decide +kernel
theorem dX9_advance_112 : decode cX9_advance 112 = .ok (.iload_n 3, 1) := by decide +kernel
theorem dX9_advance_113 : decode cX9_advance 113 = .ok (.invokevirtual 54, 3) := by decide +kernel
theorem dX9_advance_116 : decode cX9_advance 116 = .ok (.iconst 0, 1) := by decide +kernel
theorem dX9_advance_117 : decode cX9_advance 117 = .ok (.ireturn, 1) := by decide +kernel
set_option maxRecDepth 20000 in
theorem ggX9_push_X9_mark : GoodIn wsX9_push wsX9_mark := goodIn_r _ [8] (by decide +kernel) (by decide +kernel)
set_option maxRecDepth 20000 in
theorem gX9_push_X9_mark : GoodIn wsX9_push (va_wsS RX9 68 yX9_mark wsX9_mark) := goodIn_app (goodIn_of _ (by decide +kernel)) ggX9_push_X9_mark
theorem dX9_push_0 : decode cX9_push 0 = .ok (.aload_n 0, 1) := by decide +kernel
theorem dX9_push_1 : decode cX9_push 1 = .ok (.getfield 46, 3) := by decide +kernel
theorem dX9_push_4 : decode cX9_push 4 = .ok (.sipush 256, 3) := by decide +kernel
theorem dX9_push_7 : decode cX9_push 7 = .ok (.if_icmp .lt 4, 3) := by decide +kernel
theorem dX9_push_10 : decode cX9_push 10 = .ok (.return_, 1) := by decide +kernel
theorem dX9_push_11 : decode cX9_push 11 = .ok (.aload_n 0, 1) := by decide +kernel
theorem dX9_push_12 : decode cX9_push 12 = .ok (.getfield 22, 3) := by decide +kernel
theorem dX9_push_15 : decode cX9_push 15 = .ok (.iload_n 1, 1) := by decide +kernel
theorem dX9_push_16 : decode cX9_push 16 = .ok (.invokestatic 68, 3) := by decide +kernel
theorem dX9_push_19 : decode cX9_push 19 = .ok (.aload_n 0, 1) := by decide +kernel
theorem dX9_push_20 : decode cX9_push 20 = .ok (.getfield 25, 3) := by decide +kernel
theorem dX9_push_23 : decode cX9_push 23 = .ok (.aload_n 0, 1) := by decide +kernel
theorem dX9_push_24 : decode cX9_push 24 = .ok (.getfield 46, 3) := by decide +kernel
theorem dX9_push_27 : decode cX9_push 27 = .ok (.iload_n 1, 1) := by decide +kernel
theorem dX9_push_28 : decode cX9_push 28 = .ok (.iastore, 1) := by decide +kernel
theorem dX9_push_29 : decode cX9_push 29 = .ok (.aload_n 0, 1) := by decide +kernel
theorem dX9_push_30 : decode cX9_push 30 = .ok (.getfield 29, 3) := by decide +kernel
theorem dX9_push_33 : decode cX9_push 33 = .ok (.aload_n 0, 1) := by decide +kernel
theorem dX9_push_34 : decode cX9_push 34 = .ok (.getfield 46, 3) := by decide +kernel
theorem dX9_push_37 : decode cX9_push 37 = .ok (.iconst (-1), 1) := by decide +kernel
theorem dX9_push_38 : decode cX9_push 38 = .ok (.iastore, 1) := by decide +kernel
theorem dX9_push_39 : decode cX9_push 39 = .ok (.aload_n 0, 1) := by decide +kernel
theorem dX9_push_40 : decode cX9_push 40 = .ok (.dup, 1) := by decide +kernel
theorem dX9_push_41 : decode cX9_push 41 = .ok (.getfield 46, 3) := by decide +kernel
theorem dX9_push_44 : decode cX9_push 44 = .ok (.iconst 1, 1) := by decide +kernel
theorem dX9_push_45 : decode cX9_push 45 = .ok (.iadd, 1) := by decide +kernel
theorem dX9_push_46 : decode cX9_push 46 = .ok (.putfield 46, 3) := by decide +kernel
theorem dX9_push_49 : decode cX9_push 49 = .ok (.return_, 1) := by decide +kernel
theorem dX9_walkPlaceOf_0 : decode cX9_walkPlaceOf 0 = .ok (.iconst 0, 1) := by decide +kernel
theorem dX9_walkPlaceOf_1 : decode cX9_walkPlaceOf 1 = .ok (.istore_n 2, 1) := by decide +kernel
theorem dX9_walkPlaceOf_2 : decode cX9_walkPlaceOf 2 = .ok (.iload_n 2, 1) := by decide +kernel
theorem dX9_walkPlaceOf_3 : decode cX9_walkPlaceOf 3 = .ok (.aload_n 0, 1) := by decide +kernel
theorem dX9_walkPlaceOf_4 : decode cX9_walkPlaceOf 4 = .ok (.getfield 46, 3) := by decide +kernel
theorem dX9_walkPlaceOf_7 : decode cX9_walkPlaceOf 7 = .ok (.iconst 1, 1) := by decide +kernel
theorem dX9_walkPlaceOf_8 : decode cX9_walkPlaceOf 8 = .ok (.isub, 1) := by decide +kernel
theorem dX9_walkPlaceOf_9 : decode cX9_walkPlaceOf 9 = .ok (.if_icmp .ge 19, 3) := by decide +kernel
theorem dX9_walkPlaceOf_12 : decode cX9_walkPlaceOf 12 = .ok (.aload_n 0, 1) := by decide +kernel
theorem dX9_walkPlaceOf_13 : decode cX9_walkPlaceOf 13 = .ok (.getfield 25, 3) := by decide +kernel
theorem dX9_walkPlaceOf_16 : decode cX9_walkPlaceOf 16 = .ok (.iload_n 2, 1) := by decide +kernel
theorem dX9_walkPlaceOf_17 : decode cX9_walkPlaceOf 17 = .ok (.iaload, 1) := by decide +kernel
theorem dX9_walkPlaceOf_18 : decode cX9_walkPlaceOf 18 = .ok (.iload_n 1, 1) := by decide +kernel
theorem dX9_walkPlaceOf_19 : decode cX9_walkPlaceOf 19 = .ok (.if_icmp .eq 9, 3) := by decide +kernel
theorem dX9_walkPlaceOf_22 : decode cX9_walkPlaceOf 22 = .ok (.iinc 2 1, 3) := by decide +kernel
theorem dX9_walkPlaceOf_25 : decode cX9_walkPlaceOf 25 = .ok (.goto (-23), 3) := by decide +kernel
theorem dX9_walkPlaceOf_28 : decode cX9_walkPlaceOf 28 = .ok (.iload_n 2, 1) := by decide +kernel
theorem dX9_walkPlaceOf_29 : decode cX9_walkPlaceOf 29 = .ok (.ireturn, 1) := by decide +kernel
theorem dX9_fullState_0 : decode cX9_fullState 0 = .ok (.iconst 0, 1) := by decide +kernel
theorem dX9_fullState_1 : decode cX9_fullState 1 = .ok (.istore_n 1, 1) := by decide +kernel
theorem dX9_fullState_2 : decode cX9_fullState 2 = .ok (.iconst 0, 1) := by decide +kernel
theorem dX9_fullState_3 : decode cX9_fullState 3 = .ok (.istore_n 2, 1) := by decide +kernel
theorem dX9_fullState_4 : decode cX9_fullState 4 = .ok (.iload_n 2, 1) := by decide +kernel
theorem dX9_fullState_5 : decode cX9_fullState 5 = .ok (.aload_n 0, 1) := by decide +kernel
theorem dX9_fullState_6 : decode cX9_fullState 6 = .ok (.getfield 14, 3) := by decide +kernel
theorem dX9_fullState_9 : decode cX9_fullState 9 = .ok (.getfield 67, 3) := by decide +kernel
theorem dX9_fullState_12 : decode cX9_fullState 12 = .ok (.if_icmp .ge 27, 3) := by decide +kernel
theorem dX9_fullState_15 : decode cX9_fullState 15 = .ok (.iload_n 1, 1) := by decide +kernel
theorem dX9_fullState_16 : decode cX9_fullState 16 = .ok (.aload_n 0, 1) := by decide +kernel
theorem dX9_fullState_17 : decode cX9_fullState 17 = .ok (.getfield 14, 3) := by decide +kernel
theorem dX9_fullState_20 : decode cX9_fullState 20 = .ok (.getfield 84, 3) := by decide +kernel
theorem dX9_fullState_23 : decode cX9_fullState 23 = .ok (.iload_n 2, 1) := by decide +kernel
theorem dX9_fullState_24 : decode cX9_fullState 24 = .ok (.iaload, 1) := by decide +kernel
theorem dX9_fullState_25 : decode cX9_fullState 25 = .ok (.iconst 1, 1) := by decide +kernel
theorem dX9_fullState_26 : decode cX9_fullState 26 = .ok (.isub, 1) := by decide +kernel
theorem dX9_fullState_27 : decode cX9_fullState 27 = .ok (.iconst 3, 1) := by decide +kernel
theorem dX9_fullState_28 : decode cX9_fullState 28 = .ok (.iload_n 2, 1) := by decide +kernel
theorem dX9_fullState_29 : decode cX9_fullState 29 = .ok (.imul, 1) := by decide +kernel
theorem dX9_fullState_30 : decode cX9_fullState 30 = .ok (.ishl, 1) := by decide +kernel
theorem dX9_fullState_31 : decode cX9_fullState 31 = .ok (.ior, 1) := by decide +kernel
theorem dX9_fullState_32 : decode cX9_fullState 32 = .ok (.istore_n 1, 1) := by decide +kernel
theorem dX9_fullState_33 : decode cX9_fullState 33 = .ok (.iinc 2 1, 3) := by decide +kernel
theorem dX9_fullState_36 : decode cX9_fullState 36 = .ok (.goto (-32), 3) := by decide +kernel
theorem dX9_fullState_39 : decode cX9_fullState 39 = .ok (.iload_n 1, 1) := by decide +kernel
theorem dX9_fullState_40 : decode cX9_fullState 40 = .ok (.ireturn, 1) := by decide +kernel
theorem dX9_stateAfter_0 : decode cX9_stateAfter 0 = .ok (.iconst 0, 1) := by decide +kernel
theorem dX9_stateAfter_1 : decode cX9_stateAfter 1 = .ok (.istore_n 3, 1) := by decide +kernel
theorem dX9_stateAfter_2 : decode cX9_stateAfter 2 = .ok (.iconst 0, 1) := by decide +kernel
theorem dX9_stateAfter_3 : decode cX9_stateAfter 3 = .ok (.istore 4, 2) := by decide +kernel
theorem dX9_stateAfter_5 : decode cX9_stateAfter 5 = .ok (.iload 4, 2) := by decide +kernel
theorem dX9_stateAfter_7 : decode cX9_stateAfter 7 = .ok (.aload_n 0, 1) := by decide +kernel
theorem dX9_stateAfter_8 : decode cX9_stateAfter 8 = .ok (.getfield 14, 3) := by decide +kernel
theorem dX9_stateAfter_11 : decode cX9_stateAfter 11 = .ok (.getfield 67, 3) := by decide +kernel
theorem dX9_stateAfter_14 : decode cX9_stateAfter 14 = .ok (.if_icmp .ge 58, 3) := by decide +kernel
theorem dX9_stateAfter_17 : decode cX9_stateAfter 17 = .ok (.iload 4, 2) := by decide +kernel
theorem dX9_stateAfter_19 : decode cX9_stateAfter 19 = .ok (.iload_n 2, 1) := by decide +kernel
theorem dX9_stateAfter_20 : decode cX9_stateAfter 20 = .ok (.if_icmp .ne 16, 3) := by decide +kernel
theorem dX9_stateAfter_23 : decode cX9_stateAfter 23 = .ok (.aload_n 0, 1) := by decide +kernel
theorem dX9_stateAfter_24 : decode cX9_stateAfter 24 = .ok (.getfield 14, 3) := by decide +kernel
theorem dX9_stateAfter_27 : decode cX9_stateAfter 27 = .ok (.getfield 84, 3) := by decide +kernel
theorem dX9_stateAfter_30 : decode cX9_stateAfter 30 = .ok (.iload 4, 2) := by decide +kernel
theorem dX9_stateAfter_32 : decode cX9_stateAfter 32 = .ok (.iaload, 1) := by decide +kernel
theorem dX9_stateAfter_33 : decode cX9_stateAfter 33 = .ok (.goto 12, 3) := by decide +kernel
theorem dX9_stateAfter_36 : decode cX9_stateAfter 36 = .ok (.iload_n 1, 1) := by decide +kernel
theorem dX9_stateAfter_37 : decode cX9_stateAfter 37 = .ok (.iconst 3, 1) := by decide +kernel
theorem dX9_stateAfter_38 : decode cX9_stateAfter 38 = .ok (.iload 4, 2) := by decide +kernel
theorem dX9_stateAfter_40 : decode cX9_stateAfter 40 = .ok (.imul, 1) := by decide +kernel
theorem dX9_stateAfter_41 : decode cX9_stateAfter 41 = .ok (.ishr, 1) := by decide +kernel
theorem dX9_stateAfter_42 : decode cX9_stateAfter 42 = .ok (.bipush 7, 2) := by decide +kernel
theorem dX9_stateAfter_44 : decode cX9_stateAfter 44 = .ok (.iand, 1) := by decide +kernel
theorem dX9_stateAfter_45 : decode cX9_stateAfter 45 = .ok (.iconst 1, 1) := by decide +kernel
theorem dX9_stateAfter_46 : decode cX9_stateAfter 46 = .ok (.isub, 1) := by decide +kernel
theorem dX9_stateAfter_47 : decode cX9_stateAfter 47 = .ok (.istore 5, 2) := by decide +kernel
theorem dX9_stateAfter_49 : decode cX9_stateAfter 49 = .ok (.iload 5, 2) := by decide +kernel
theorem dX9_stateAfter_51 : decode cX9_stateAfter 51 = .ok (.ifCond .ge 5, 3) := by decide +kernel
theorem dX9_stateAfter_54 : decode cX9_stateAfter 54 = .ok (.iconst (-1), 1) := by decide +kernel
theorem dX9_stateAfter_55 : decode cX9_stateAfter 55 = .ok (.ireturn, 1) := by decide +kernel
theorem dX9_stateAfter_56 : decode cX9_stateAfter 56 = .ok (.iload_n 3, 1) := by decide +kernel
theorem dX9_stateAfter_57 : decode cX9_stateAfter 57 = .ok (.iload 5, 2) := by decide +kernel
theorem dX9_stateAfter_59 : decode cX9_stateAfter 59 = .ok (.iconst 3, 1) := by decide +kernel
theorem dX9_stateAfter_60 : decode cX9_stateAfter 60 = .ok (.iload 4, 2) := by decide +kernel
theorem dX9_stateAfter_62 : decode cX9_stateAfter 62 = .ok (.imul, 1) := by decide +kernel
theorem dX9_stateAfter_63 : decode cX9_stateAfter 63 = .ok (.ishl, 1) := by decide +kernel
theorem dX9_stateAfter_64 : decode cX9_stateAfter 64 = .ok (.ior, 1) := by decide +kernel
theorem dX9_stateAfter_65 : decode cX9_stateAfter 65 = .ok (.istore_n 3, 1) := by decide +kernel
theorem dX9_stateAfter_66 : decode cX9_stateAfter 66 = .ok (.iinc 4 1, 3) := by decide +kernel
theorem dX9_stateAfter_69 : decode cX9_stateAfter 69 = .ok (.goto (-64), 3) := by decide +kernel
theorem dX9_stateAfter_72 : decode cX9_stateAfter 72 = .ok (.iload_n 3, 1) := by decide +kernel
theorem dX9_stateAfter_73 : decode cX9_stateAfter 73 = .ok (.ireturn, 1) := by decide +kernel
theorem dX9_isMarked_0 : decode cX9_isMarked 0 = .ok (.aload_n 0, 1) := by decide +kernel
theorem dX9_isMarked_1 : decode cX9_isMarked 1 = .ok (.iload_n 1, 1) := by decide +kernel
theorem dX9_isMarked_2 : decode cX9_isMarked 2 = .ok (.bipush 6, 2) := by decide +kernel
theorem dX9_isMarked_4 : decode cX9_isMarked 4 = .ok (.ishr, 1) := by decide +kernel
theorem dX9_isMarked_5 : decode cX9_isMarked 5 = .ok (.laload, 1) := by decide +kernel
theorem dX9_isMarked_6 : decode cX9_isMarked 6 = .ok (.iload_n 1, 1) := by decide +kernel
theorem dX9_isMarked_7 : decode cX9_isMarked 7 = .ok (.bipush 63, 2) := by decide +kernel
theorem dX9_isMarked_9 : decode cX9_isMarked 9 = .ok (.iand, 1) := by decide +kernel
theorem dX9_isMarked_10 : decode cX9_isMarked 10 = .ok (.lshr, 1) := by decide +kernel
theorem dX9_isMarked_11 : decode cX9_isMarked 11 = .ok (.lconst 1, 1) := by decide +kernel
theorem dX9_isMarked_12 : decode cX9_isMarked 12 = .ok (.land, 1) := by decide +kernel
theorem dX9_isMarked_13 : decode cX9_isMarked 13 = .ok (.lconst 0, 1) := by decide +kernel
theorem dX9_isMarked_14 : decode cX9_isMarked 14 = .ok (.lcmp, 1) := by decide +kernel
theorem dX9_isMarked_15 : decode cX9_isMarked 15 = .ok (.ifCond .eq 7, 3) := by decide +kernel
theorem dX9_isMarked_18 : decode cX9_isMarked 18 = .ok (.iconst 1, 1) := by decide +kernel
theorem dX9_isMarked_19 : decode cX9_isMarked 19 = .ok (.goto 4, 3) := by decide +kernel
theorem dX9_isMarked_22 : decode cX9_isMarked 22 = .ok (.iconst 0, 1) := by decide +kernel
theorem dX9_isMarked_23 : decode cX9_isMarked 23 = .ok (.ireturn, 1) := by decide +kernel
theorem dX9_mark_0 : decode cX9_mark 0 = .ok (.aload_n 0, 1) := by decide +kernel
theorem dX9_mark_1 : decode cX9_mark 1 = .ok (.iload_n 1, 1) := by decide +kernel
theorem dX9_mark_2 : decode cX9_mark 2 = .ok (.bipush 6, 2) := by decide +kernel
theorem dX9_mark_4 : decode cX9_mark 4 = .ok (.ishr, 1) := by decide +kernel
theorem dX9_mark_5 : decode cX9_mark 5 = .ok (.dup2, 1) := by decide +kernel
theorem dX9_mark_6 : decode cX9_mark 6 = .ok (.laload, 1) := by decide +kernel
theorem dX9_mark_7 : decode cX9_mark 7 = .ok (.lconst 1, 1) := by decide +kernel
theorem dX9_mark_8 : decode cX9_mark 8 = .ok (.iload_n 1, 1) := by decide +kernel
theorem dX9_mark_9 : decode cX9_mark 9 = .ok (.bipush 63, 2) := by decide +kernel
theorem dX9_mark_11 : decode cX9_mark 11 = .ok (.iand, 1) := by decide +kernel
theorem dX9_mark_12 : decode cX9_mark 12 = .ok (.lshl, 1) := by decide +kernel
theorem dX9_mark_13 : decode cX9_mark 13 = .ok (.lor, 1) := by decide +kernel
theorem dX9_mark_14 : decode cX9_mark 14 = .ok (.lastore, 1) := by decide +kernel
theorem dX9_mark_15 : decode cX9_mark 15 = .ok (.return_, 1) := by decide +kernel
set_option maxRecDepth 20000 in
theorem ggX10_init_X6_init : GoodIn wsX10_init wsX6_init := goodIn_r _ [31, 32, 2, 3, 33, 34, 35, 36, 37, 38, 39, 40, 41, 42, 43, 44, 45, 46, 47, 48, 49, 50, 51, 52, 53, 54, 55, 56, 57, 58, 59, 60, 61, 62, 63, 64, 65, 66, 67, 68, 69, 70, 71, 72, 73, 74, 75, 76, 77, 78, 145, 146, 147, 148, 149, 150, 151, 152, 153, 154, 109, 110, 111, 112, 155, 156, 157, 158, 159, 160, 161, 162, 163, 164, 165, 166] (by decide +kernel) (by decide +kernel)
set_option maxRecDepth 20000 in
theorem gX10_init_X6_init_n9 : GoodIn wsX10_init (wsX6_init) := ggX10_init_X6_init
set_option maxRecDepth 20000 in
theorem ggX10_init_X7_init : GoodIn wsX10_init wsX7_init := goodIn_r _ [80, 81, 2, 3, 53, 82, 83, 84, 85, 123, 124, 125] (by decide +kernel) (by decide +kernel)
set_option maxRecDepth 20000 in
theorem gX10_init_X7_init_n21 : GoodIn wsX10_init (wsX7_init) := ggX10_init_X7_init
set_option maxRecDepth 20000 in
theorem ggX10_init_X3_init : GoodIn wsX10_init wsX3_init := goodIn_r _ [87, 88, 2, 3, 89, 90, 91, 92, 126, 127, 128, 129, 130, 131] (by decide +kernel) (by decide +kernel)
set_option maxRecDepth 20000 in
theorem gX10_init_X3_init_n28 : GoodIn wsX10_init (wsX3_init) := ggX10_init_X3_init
set_option maxRecDepth 20000 in
theorem ggX10_init_X1_init : GoodIn wsX10_init wsX1_init := goodIn_r _ [94, 95, 2, 3, 91, 96, 132, 133] (by decide +kernel) (by decide +kernel)
set_option maxRecDepth 20000 in
theorem gX10_init_X1_init_n35 : GoodIn wsX10_init (wsX1_init) := ggX10_init_X1_init
set_option maxRecDepth 20000 in
theorem ggX10_init_X0_init : GoodIn wsX10_init wsX0_init := goodIn_r _ [98, 99, 2, 3] (by decide +kernel) (by decide +kernel)
set_option maxRecDepth 20000 in
theorem gX10_init_X0_init_n42 : GoodIn wsX10_init (wsX0_init) := ggX10_init_X0_init
set_option maxRecDepth 20000 in
theorem ggX10_init_X9_init : GoodIn wsX10_init wsX9_init := goodIn_r _ [101, 102, 2, 3, 103, 42, 43, 104, 91, 105, 106, 53, 107, 108, 70, 71, 72, 73, 162, 163, 138, 139, 140, 141, 142, 143, 144] (by decide +kernel) (by decide +kernel)
set_option maxRecDepth 20000 in
theorem gX10_init_X9_init_n49 : GoodIn wsX10_init (wsX9_init) := ggX10_init_X9_init
theorem dX10_init_0 : decode cX10_init 0 = .ok (.aload_n 0, 1) := by decide +kernel
theorem dX10_init_1 : decode cX10_init 1 = .ok (.invokespecial 1, 3) := by decide +kernel
theorem dX10_init_4 : decode cX10_init 4 = .ok (.aload_n 0, 1) := by decide +kernel
theorem dX10_init_5 : decode cX10_init 5 = .ok (.new 7, 3) := by decide +kernel
theorem dX10_init_8 : decode cX10_init 8 = .ok (.dup, 1) := by decide +kernel
theorem dX10_init_9 : decode cX10_init 9 = .ok (.invokespecial 9, 3) := by decide +kernel
theorem dX10_init_12 : decode cX10_init 12 = .ok (.putfield 10, 3) := by decide +kernel
theorem dX10_init_15 : decode cX10_init 15 = .ok (.aload_n 0, 1) := by decide +kernel
theorem dX10_init_16 : decode cX10_init 16 = .ok (.new 7, 3) := by decide +kernel
theorem dX10_init_19 : decode cX10_init 19 = .ok (.dup, 1) := by decide +kernel
theorem dX10_init_20 : decode cX10_init 20 = .ok (.invokespecial 9, 3) := by decide +kernel
theorem dX10_init_23 : decode cX10_init 23 = .ok (.putfield 16, 3) := by decide +kernel
theorem dX10_init_26 : decode cX10_init 26 = .ok (.aload_n 0, 1) := by decide +kernel
theorem dX10_init_27 : decode cX10_init 27 = .ok (.new 19, 3) := by decide +kernel
theorem dX10_init_30 : decode cX10_init 30 = .ok (.dup, 1) := by decide +kernel
theorem dX10_init_31 : decode cX10_init 31 = .ok (.invokespecial 21, 3) := by decide +kernel
theorem dX10_init_34 : decode cX10_init 34 = .ok (.putfield 22, 3) := by decide +kernel
theorem dX10_init_37 : decode cX10_init 37 = .ok (.aload_n 0, 1) := by decide +kernel
theorem dX10_init_38 : decode cX10_init 38 = .ok (.new 26, 3) := by decide +kernel
theorem dX10_init_41 : decode cX10_init 41 = .ok (.dup, 1) := by decide +kernel
theorem dX10_init_42 : decode cX10_init 42 = .ok (.invokespecial 28, 3) := by decide +kernel
theorem dX10_init_45 : decode cX10_init 45 = .ok (.putfield 29, 3) := by decide +kernel
theorem dX10_init_48 : decode cX10_init 48 = .ok (.aload_n 0, 1) := by decide +kernel
theorem dX10_init_49 : decode cX10_init 49 = .ok (.new 33, 3) := by decide +kernel
theorem dX10_init_52 : decode cX10_init 52 = .ok (.dup, 1) := by decide +kernel
theorem dX10_init_53 : decode cX10_init 53 = .ok (.invokespecial 35, 3) := by decide +kernel
theorem dX10_init_56 : decode cX10_init 56 = .ok (.putfield 36, 3) := by decide +kernel
theorem dX10_init_59 : decode cX10_init 59 = .ok (.aload_n 0, 1) := by decide +kernel
theorem dX10_init_60 : decode cX10_init 60 = .ok (.new 40, 3) := by decide +kernel
theorem dX10_init_63 : decode cX10_init 63 = .ok (.dup, 1) := by decide +kernel
theorem dX10_init_64 : decode cX10_init 64 = .ok (.invokespecial 42, 3) := by decide +kernel
theorem dX10_init_67 : decode cX10_init 67 = .ok (.putfield 43, 3) := by decide +kernel
theorem dX10_init_70 : decode cX10_init 70 = .ok (.aload_n 0, 1) := by decide +kernel
theorem dX10_init_71 : decode cX10_init 71 = .ok (.new 47, 3) := by decide +kernel
theorem dX10_init_74 : decode cX10_init 74 = .ok (.dup, 1) := by decide +kernel
theorem dX10_init_75 : decode cX10_init 75 = .ok (.invokespecial 49, 3) := by decide +kernel
theorem dX10_init_78 : decode cX10_init 78 = .ok (.putfield 50, 3) := by decide +kernel
theorem dX10_init_81 : decode cX10_init 81 = .ok (.aload_n 0, 1) := by decide +kernel
theorem dX10_init_82 : decode cX10_init 82 = .ok (.iconst 1, 1) := by decide +kernel
theorem dX10_init_83 : decode cX10_init 83 = .ok (.putfield 54, 3) := by decide +kernel
theorem dX10_init_86 : decode cX10_init 86 = .ok (.return_, 1) := by decide +kernel
set_option maxRecDepth 20000 in
theorem ggX10_target_X10_isFrom : GoodIn wsX10_target wsX10_isFrom := goodIn_r _ [8] (by decide +kernel) (by decide +kernel)
set_option maxRecDepth 20000 in
theorem gX10_target_X10_isFrom : GoodIn wsX10_target (va_wsS RX10 58 yX10_isFrom wsX10_isFrom) := goodIn_app (goodIn_of _ (by decide +kernel)) ggX10_target_X10_isFrom
set_option maxRecDepth 20000 in
theorem ggX10_target_X10_isGap : GoodIn wsX10_target wsX10_isGap := goodIn_r _ [11, 5, 6, 7, 8] (by decide +kernel) (by decide +kernel)
set_option maxRecDepth 20000 in
theorem gX10_target_X10_isGap : GoodIn wsX10_target (va_wsS RX10 62 yX10_isGap wsX10_isGap) := goodIn_app (goodIn_of _ (by decide +kernel)) ggX10_target_X10_isGap
set_option maxRecDepth 20000 in
theorem ggX10_target_X10_isPay : GoodIn wsX10_target wsX10_isPay := goodIn_r _ [14, 5, 6, 7, 8] (by decide +kernel) (by decide +kernel)
set_option maxRecDepth 20000 in
theorem gX10_target_X10_isPay : GoodIn wsX10_target (va_wsS RX10 66 yX10_isPay wsX10_isPay) := goodIn_app (goodIn_of _ (by decide +kernel)) ggX10_target_X10_isPay
set_option maxRecDepth 20000 in
theorem ggX10_target_X8_add : GoodIn wsX10_target wsX8_add := goodIn_r _ [19, 20, 21, 22, 23, 24, 25, 26, 27, 28, 43, 44, 45, 46, 47, 48, 49, 50, 51, 52] (by decide +kernel) (by decide +kernel)
set_option maxRecDepth 20000 in
theorem gX10_target_X8_add : GoodIn wsX10_target (wsV RX10 79 RX8 yX8_add wsX8_add) := goodIn_app (goodIn_of _ (by decide +kernel)) ggX10_target_X8_add
theorem dX10_target_0 : decode cX10_target 0 = .ok (.iload_n 1, 1) := by decide +kernel
theorem dX10_target_1 : decode cX10_target 1 = .ok (.iconst 0, 1) := by decide +kernel
theorem dX10_target_2 : decode cX10_target 2 = .ok (.iconst 3, 1) := by decide +kernel
theorem dX10_target_3 : decode cX10_target 3 = .ok (.invokestatic 58, 3) := by decide +kernel
theorem dX10_target_6 : decode cX10_target 6 = .ok (.ifCond .eq 15, 3) := by decide +kernel
theorem dX10_target_9 : decode cX10_target 9 = .ok (.iload 5, 2) := by decide +kernel
theorem dX10_target_11 : decode cX10_target 11 = .ok (.invokestatic 62, 3) := by decide +kernel
theorem dX10_target_14 : decode cX10_target 14 = .ok (.ifCond .eq 7, 3) := by decide +kernel
theorem dX10_target_17 : decode cX10_target 17 = .ok (.iconst 1, 1) := by decide +kernel
theorem dX10_target_18 : decode cX10_target 18 = .ok (.goto 4, 3) := by decide +kernel
theorem dX10_target_21 : decode cX10_target 21 = .ok (.iconst 0, 1) := by decide +kernel
theorem dX10_target_22 : decode cX10_target 22 = .ok (.istore 6, 2) := by decide +kernel
theorem dX10_target_24 : decode cX10_target 24 = .ok (.iload_n 2, 1) := by decide +kernel
theorem dX10_target_25 : decode cX10_target 25 = .ok (.invokestatic 66, 3) := by decide +kernel
theorem dX10_target_28 : decode cX10_target 28 = .ok (.ifCond .eq 27, 3) := by decide +kernel
theorem dX10_target_31 : decode cX10_target 31 = .ok (.iload_n 3, 1) := by decide +kernel
theorem dX10_target_32 : decode cX10_target 32 = .ok (.invokestatic 66, 3) := by decide +kernel
theorem dX10_target_35 : decode cX10_target 35 = .ok (.ifCond .eq 20, 3) := by decide +kernel
theorem dX10_target_38 : decode cX10_target 38 = .ok (.iload 4, 2) := by decide +kernel
theorem dX10_target_40 : decode cX10_target 40 = .ok (.invokestatic 66, 3) := by decide +kernel
theorem dX10_target_43 : decode cX10_target 43 = .ok (.ifCond .eq 12, 3) := by decide +kernel
theorem dX10_target_46 : decode cX10_target 46 = .ok (.iload_n 3, 1) := by decide +kernel
theorem dX10_target_47 : decode cX10_target 47 = .ok (.iload_n 2, 1) := by decide +kernel
theorem dX10_target_48 : decode cX10_target 48 = .ok (.if_icmp .gt 7, 3) := by decide +kernel
theorem dX10_target_51 : decode cX10_target 51 = .ok (.iconst 1, 1) := by decide +kernel
theorem dX10_target_52 : decode cX10_target 52 = .ok (.goto 4, 3) := by decide +kernel
theorem dX10_target_55 : decode cX10_target 55 = .ok (.iconst 0, 1) := by decide +kernel
theorem dX10_target_56 : decode cX10_target 56 = .ok (.istore 7, 2) := by decide +kernel
theorem dX10_target_58 : decode cX10_target 58 = .ok (.iload 6, 2) := by decide +kernel
theorem dX10_target_60 : decode cX10_target 60 = .ok (.ifCond .eq 23, 3) := by decide +kernel
theorem dX10_target_63 : decode cX10_target 63 = .ok (.iload 7, 2) := by decide +kernel
theorem dX10_target_65 : decode cX10_target 65 = .ok (.ifCond .eq 18, 3) := by decide +kernel
theorem dX10_target_68 : decode cX10_target 68 = .ok (.aload_n 0, 1) := by decide +kernel
theorem dX10_target_69 : decode cX10_target 69 = .ok (.getfield 10, 3) := by decide +kernel
theorem dX10_target_72 : decode cX10_target 72 = .ok (.getfield 69, 3) := by decide +kernel
theorem dX10_target_75 : decode cX10_target 75 = .ok (.getfield 73, 3) := by decide +kernel
theorem dX10_target_78 : decode cX10_target 78 = .ok (.bipush 10, 2) := by decide +kernel
theorem dX10_target_80 : decode cX10_target 80 = .ok (.if_icmp .lt 6, 3) := by decide +kernel
theorem dX10_target_83 : decode cX10_target 83 = .ok (.ldc 78, 2) := by decide +kernel
theorem dX10_target_85 : decode cX10_target 85 = .ok (.ireturn, 1) := by decide +kernel
theorem dX10_target_86 : decode cX10_target 86 = .ok (.aload_n 0, 1) := by decide +kernel
theorem dX10_target_87 : decode cX10_target 87 = .ok (.getfield 10, 3) := by decide +kernel
theorem dX10_target_90 : decode cX10_target 90 = .ok (.getfield 69, 3) := by decide +kernel
theorem dX10_target_93 : decode cX10_target 93 = .ok (.iload_n 1, 1) := by decide +kernel
theorem dX10_target_94 : decode cX10_target 94 = .ok (.iload_n 2, 1) := by decide +kernel
theorem dX10_target_95 : decode cX10_target 95 = .ok (.iload_n 3, 1) := by decide +kernel
theorem dX10_target_96 : decode cX10_target 96 = .ok (.iload 4, 2) := by decide +kernel
theorem dX10_target_98 : decode cX10_target 98 = .ok (.iload 5, 2) := by decide +kernel
theorem dX10_target_100 : decode cX10_target 100 = .ok (.invokevirtual 79, 3) := by decide +kernel
theorem dX10_target_103 : decode cX10_target 103 = .ok (.ireturn, 1) := by decide +kernel
set_option maxRecDepth 20000 in
theorem ggX10_bounds_X8_has : GoodIn wsX10_bounds wsX8_has := goodIn_r _ [12, 13, 14, 15, 16, 37, 38, 39, 40, 41, 42, 43, 44, 45, 46] (by decide +kernel) (by decide +kernel)
set_option maxRecDepth 20000 in
theorem gX10_bounds_X8_has : GoodIn wsX10_bounds (wsV RX10 83 RX8 yX8_has wsX8_has) := goodIn_app (goodIn_of _ (by decide +kernel)) ggX10_bounds_X8_has
set_option maxRecDepth 20000 in
theorem ggX10_bounds_X10_isFrom : GoodIn wsX10_bounds wsX10_isFrom := goodIn_r _ [16] (by decide +kernel) (by decide +kernel)
set_option maxRecDepth 20000 in
theorem gX10_bounds_X10_isFrom : GoodIn wsX10_bounds (va_wsS RX10 58 yX10_isFrom wsX10_isFrom) := goodIn_app (goodIn_of _ (by decide +kernel)) ggX10_bounds_X10_isFrom
set_option maxRecDepth 20000 in
theorem ggX10_bounds_X10_hostFinding : GoodIn wsX10_bounds wsX10_hostFinding := goodIn_r _ [21, 22, 23, 24, 25, 26, 27, 28, 29, 30, 31, 32] (by decide +kernel) (by decide +kernel)
set_option maxRecDepth 20000 in
theorem gX10_bounds_X10_hostFinding : GoodIn wsX10_bounds (wsV RX10 91 RX10 yX10_hostFinding wsX10_hostFinding) := goodIn_app (goodIn_of _ (by decide +kernel)) ggX10_bounds_X10_hostFinding
theorem dX10_bounds_0 : decode cX10_bounds 0 = .ok (.aload_n 0, 1) := by decide +kernel
theorem dX10_bounds_1 : decode cX10_bounds 1 = .ok (.getfield 10, 3) := by decide +kernel
theorem dX10_bounds_4 : decode cX10_bounds 4 = .ok (.getfield 69, 3) := by decide +kernel
