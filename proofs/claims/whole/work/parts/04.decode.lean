theorem dX11_worth_58 : decode cX11_worth 58 = .ok (.getfield 91, 3) := by decide +kernel
theorem dX11_worth_61 : decode cX11_worth 61 = .ok (.invokevirtual 114, 3) := by decide +kernel
theorem dX11_worth_64 : decode cX11_worth 64 = .ok (.ireturn, 1) := by decide +kernel
set_option maxRecDepth 20000 in
theorem ggX11_prize_X11_findBest : GoodIn wsX11_prize wsX11_findBest := goodIn_r _ [7, 8, 9, 10, 11, 12, 1, 13, 14, 15, 6, 16, 17, 18, 19, 20, 21, 22, 23, 24, 25, 26, 27, 28, 29, 30, 31, 32, 33, 34, 35, 44, 45, 46, 47, 48, 49, 50, 51, 52, 53, 54, 55, 56, 57, 58, 59, 60, 61, 62] (by decide +kernel) (by decide +kernel)
set_option maxRecDepth 20000 in
theorem gX11_prize_X11_findBest : GoodIn wsX11_prize (wsV RX11 109 RX11 yX11_findBest wsX11_findBest) := goodIn_app (goodIn_of _ (by decide +kernel)) ggX11_prize_X11_findBest
set_option maxRecDepth 20000 in
theorem ggX11_prize_X11_prizeTimesLow : GoodIn wsX11_prize wsX11_prizeTimesLow := goodIn_r _ [35, 9, 8, 1, 12, 44, 45, 46, 47, 48, 49, 50, 51, 52, 53, 54, 55, 56, 57, 58, 59, 60, 61, 62] (by decide +kernel) (by decide +kernel)
set_option maxRecDepth 20000 in
theorem gX11_prize_X11_prizeTimesLow : GoodIn wsX11_prize (wsV RX11 100 RX11 yX11_prizeTimesLow wsX11_prizeTimesLow) := goodIn_app (goodIn_of _ (by decide +kernel)) ggX11_prize_X11_prizeTimesLow
set_option maxRecDepth 20000 in
theorem ggX11_prize_X11_fraction : GoodIn wsX11_prize wsX11_fraction := goodIn_r _ [39, 40, 41, 42, 6, 43, 44, 45, 46, 47, 48, 49, 50, 51, 52, 53, 54, 55, 56, 57, 58, 59, 60, 61, 62] (by decide +kernel) (by decide +kernel)
set_option maxRecDepth 20000 in
theorem gX11_prize_X11_fraction : GoodIn wsX11_prize (wsV RX11 114 RX11 yX11_fraction wsX11_fraction) := goodIn_app (goodIn_of _ (by decide +kernel)) ggX11_prize_X11_fraction
theorem dX11_prize_0 : decode cX11_prize 0 = .ok (.aload_n 0, 1) := by decide +kernel
theorem dX11_prize_1 : decode cX11_prize 1 = .ok (.invokevirtual 109, 3) := by decide +kernel
theorem dX11_prize_4 : decode cX11_prize 4 = .ok (.ifCond .eq 18, 3) := by decide +kernel
theorem dX11_prize_7 : decode cX11_prize 7 = .ok (.aload_n 0, 1) := by decide +kernel
theorem dX11_prize_8 : decode cX11_prize 8 = .ok (.aload_n 0, 1) := by decide +kernel
theorem dX11_prize_9 : decode cX11_prize 9 = .ok (.invokevirtual 100, 3) := by decide +kernel
theorem dX11_prize_12 : decode cX11_prize 12 = .ok (.aload_n 0, 1) := by decide +kernel
theorem dX11_prize_13 : decode cX11_prize 13 = .ok (.getfield 91, 3) := by decide +kernel
theorem dX11_prize_16 : decode cX11_prize 16 = .ok (.invokevirtual 114, 3) := by decide +kernel
theorem dX11_prize_19 : decode cX11_prize 19 = .ok (.goto 5, 3) := by decide +kernel
theorem dX11_prize_22 : decode cX11_prize 22 = .ok (.ldc 113, 2) := by decide +kernel
theorem dX11_prize_24 : decode cX11_prize 24 = .ok (.ireturn, 1) := by decide +kernel
set_option maxRecDepth 20000 in
theorem ggX11_share_X11_isTarget : GoodIn wsX11_share wsX11_isTarget := goodIn_r _ [9, 10, 11, 12, 8, 13, 52, 53, 54, 55, 56, 57, 58, 59, 60, 61, 62, 63, 64, 65, 66, 67, 68, 69, 70] (by decide +kernel) (by decide +kernel)
set_option maxRecDepth 20000 in
theorem gX11_share_X11_isTarget : GoodIn wsX11_share (wsV RX11 56 RX11 yX11_isTarget wsX11_isTarget) := goodIn_app (goodIn_of _ (by decide +kernel)) ggX11_share_X11_isTarget
set_option maxRecDepth 20000 in
theorem ggX11_share_X11_findBest : GoodIn wsX11_share wsX11_findBest := goodIn_r _ [17, 18, 10, 19, 20, 21, 22, 23, 24, 25, 8, 26, 27, 28, 29, 30, 31, 32, 33, 34, 35, 3, 2, 36, 37, 38, 39, 40, 41, 42, 43, 52, 53, 54, 55, 56, 57, 58, 59, 60, 61, 62, 63, 64, 65, 66, 67, 68, 69, 70] (by decide +kernel) (by decide +kernel)
set_option maxRecDepth 20000 in
theorem gX11_share_X11_findBest : GoodIn wsX11_share (wsV RX11 109 RX11 yX11_findBest wsX11_findBest) := goodIn_app (goodIn_of _ (by decide +kernel)) ggX11_share_X11_findBest
set_option maxRecDepth 20000 in
theorem ggX11_share_X11_fraction : GoodIn wsX11_share wsX11_fraction := goodIn_r _ [47, 48, 49, 50, 8, 51, 52, 53, 54, 55, 56, 57, 58, 59, 60, 61, 62, 63, 64, 65, 66, 67, 68, 69, 70] (by decide +kernel) (by decide +kernel)
set_option maxRecDepth 20000 in
theorem gX11_share_X11_fraction : GoodIn wsX11_share (wsV RX11 114 RX11 yX11_fraction wsX11_fraction) := goodIn_app (goodIn_of _ (by decide +kernel)) ggX11_share_X11_fraction
theorem dX11_share_0 : decode cX11_share 0 = .ok (.aload_n 0, 1) := by decide +kernel
theorem dX11_share_1 : decode cX11_share 1 = .ok (.iload_n 1, 1) := by decide +kernel
theorem dX11_share_2 : decode cX11_share 2 = .ok (.invokevirtual 56, 3) := by decide +kernel
theorem dX11_share_5 : decode cX11_share 5 = .ok (.ifCond .ne 6, 3) := by decide +kernel
theorem dX11_share_8 : decode cX11_share 8 = .ok (.ldc 55, 2) := by decide +kernel
theorem dX11_share_10 : decode cX11_share 10 = .ok (.ireturn, 1) := by decide +kernel
theorem dX11_share_11 : decode cX11_share 11 = .ok (.aload_n 0, 1) := by decide +kernel
theorem dX11_share_12 : decode cX11_share 12 = .ok (.invokevirtual 109, 3) := by decide +kernel
theorem dX11_share_15 : decode cX11_share 15 = .ok (.ifCond .eq 20, 3) := by decide +kernel
theorem dX11_share_18 : decode cX11_share 18 = .ok (.aload_n 0, 1) := by decide +kernel
theorem dX11_share_19 : decode cX11_share 19 = .ok (.aload_n 0, 1) := by decide +kernel
theorem dX11_share_20 : decode cX11_share 20 = .ok (.getfield 29, 3) := by decide +kernel
theorem dX11_share_23 : decode cX11_share 23 = .ok (.iload_n 1, 1) := by decide +kernel
theorem dX11_share_24 : decode cX11_share 24 = .ok (.laload, 1) := by decide +kernel
theorem dX11_share_25 : decode cX11_share 25 = .ok (.aload_n 0, 1) := by decide +kernel
theorem dX11_share_26 : decode cX11_share 26 = .ok (.getfield 97, 3) := by decide +kernel
theorem dX11_share_29 : decode cX11_share 29 = .ok (.invokevirtual 114, 3) := by decide +kernel
theorem dX11_share_32 : decode cX11_share 32 = .ok (.goto 5, 3) := by decide +kernel
theorem dX11_share_35 : decode cX11_share 35 = .ok (.ldc 113, 2) := by decide +kernel
theorem dX11_share_37 : decode cX11_share 37 = .ok (.ireturn, 1) := by decide +kernel
theorem dX11_below_0 : decode cX11_below 0 = .ok (.aload_n 0, 1) := by decide +kernel
theorem dX11_below_1 : decode cX11_below 1 = .ok (.getfield 16, 3) := by decide +kernel
theorem dX11_below_4 : decode cX11_below 4 = .ok (.ireturn, 1) := by decide +kernel
set_option maxRecDepth 20000 in
theorem ggX11_put_X11_isTarget : GoodIn wsX11_put wsX11_isTarget := goodIn_r _ [7, 1, 8, 9, 6, 10, 11, 12, 13, 14, 15, 16, 17, 18, 19, 20, 21, 22, 23, 24, 25, 26, 27, 28, 29] (by decide +kernel) (by decide +kernel)
set_option maxRecDepth 20000 in
theorem gX11_put_X11_isTarget : GoodIn wsX11_put (wsV RX11 56 RX11 yX11_isTarget wsX11_isTarget) := goodIn_app (goodIn_of _ (by decide +kernel)) ggX11_put_X11_isTarget
set_option maxRecDepth 20000 in
theorem ggX11_put_X11_within : GoodIn wsX11_put wsX11_within := goodIn_r _ [10] (by decide +kernel) (by decide +kernel)
set_option maxRecDepth 20000 in
theorem gX11_put_X11_within : GoodIn wsX11_put (va_wsS RX11 47 yX11_within wsX11_within) := goodIn_app (goodIn_of _ (by decide +kernel)) ggX11_put_X11_within
theorem dX11_put_0 : decode cX11_put 0 = .ok (.aload_n 0, 1) := by decide +kernel
theorem dX11_put_1 : decode cX11_put 1 = .ok (.iload_n 1, 1) := by decide +kernel
theorem dX11_put_2 : decode cX11_put 2 = .ok (.invokevirtual 56, 3) := by decide +kernel
theorem dX11_put_5 : decode cX11_put 5 = .ok (.ifCond .eq 28, 3) := by decide +kernel
theorem dX11_put_8 : decode cX11_put 8 = .ok (.iload_n 2, 1) := by decide +kernel
theorem dX11_put_9 : decode cX11_put 9 = .ok (.aload_n 0, 1) := by decide +kernel
theorem dX11_put_10 : decode cX11_put 10 = .ok (.getfield 9, 3) := by decide +kernel
theorem dX11_put_13 : decode cX11_put 13 = .ok (.bipush 55, 2) := by decide +kernel
theorem dX11_put_15 : decode cX11_put 15 = .ok (.iload_n 1, 1) := by decide +kernel
theorem dX11_put_16 : decode cX11_put 16 = .ok (.iadd, 1) := by decide +kernel
theorem dX11_put_17 : decode cX11_put 17 = .ok (.iaload, 1) := by decide +kernel
theorem dX11_put_18 : decode cX11_put 18 = .ok (.aload_n 0, 1) := by decide +kernel
theorem dX11_put_19 : decode cX11_put 19 = .ok (.getfield 9, 3) := by decide +kernel
theorem dX11_put_22 : decode cX11_put 22 = .ok (.bipush 65, 2) := by decide +kernel
theorem dX11_put_24 : decode cX11_put 24 = .ok (.iload_n 1, 1) := by decide +kernel
theorem dX11_put_25 : decode cX11_put 25 = .ok (.iadd, 1) := by decide +kernel
theorem dX11_put_26 : decode cX11_put 26 = .ok (.iaload, 1) := by decide +kernel
theorem dX11_put_27 : decode cX11_put 27 = .ok (.invokestatic 47, 3) := by decide +kernel
theorem dX11_put_30 : decode cX11_put 30 = .ok (.ifCond .ne 6, 3) := by decide +kernel
theorem dX11_put_33 : decode cX11_put 33 = .ok (.ldc 55, 2) := by decide +kernel
theorem dX11_put_35 : decode cX11_put 35 = .ok (.ireturn, 1) := by decide +kernel
theorem dX11_put_36 : decode cX11_put 36 = .ok (.aload_n 0, 1) := by decide +kernel
theorem dX11_put_37 : decode cX11_put 37 = .ok (.getfield 9, 3) := by decide +kernel
theorem dX11_put_40 : decode cX11_put 40 = .ok (.bipush 75, 2) := by decide +kernel
theorem dX11_put_42 : decode cX11_put 42 = .ok (.iload_n 1, 1) := by decide +kernel
theorem dX11_put_43 : decode cX11_put 43 = .ok (.iadd, 1) := by decide +kernel
theorem dX11_put_44 : decode cX11_put 44 = .ok (.iaload, 1) := by decide +kernel
theorem dX11_put_45 : decode cX11_put 45 = .ok (.istore_n 3, 1) := by decide +kernel
theorem dX11_put_46 : decode cX11_put 46 = .ok (.aload_n 0, 1) := by decide +kernel
theorem dX11_put_47 : decode cX11_put 47 = .ok (.getfield 9, 3) := by decide +kernel
theorem dX11_put_50 : decode cX11_put 50 = .ok (.bipush 75, 2) := by decide +kernel
theorem dX11_put_52 : decode cX11_put 52 = .ok (.iload_n 1, 1) := by decide +kernel
theorem dX11_put_53 : decode cX11_put 53 = .ok (.iadd, 1) := by decide +kernel
theorem dX11_put_54 : decode cX11_put 54 = .ok (.iload_n 2, 1) := by decide +kernel
theorem dX11_put_55 : decode cX11_put 55 = .ok (.iastore, 1) := by decide +kernel
theorem dX11_put_56 : decode cX11_put 56 = .ok (.iload_n 3, 1) := by decide +kernel
theorem dX11_put_57 : decode cX11_put 57 = .ok (.ireturn, 1) := by decide +kernel
theorem dX11_spare_0 : decode cX11_spare 0 = .ok (.bipush (-60), 2) := by decide +kernel
theorem dX11_spare_2 : decode cX11_spare 2 = .ok (.aload_n 0, 1) := by decide +kernel
theorem dX11_spare_3 : decode cX11_spare 3 = .ok (.getfield 9, 3) := by decide +kernel
theorem dX11_spare_6 : decode cX11_spare 6 = .ok (.iconst 1, 1) := by decide +kernel
theorem dX11_spare_7 : decode cX11_spare 7 = .ok (.iaload, 1) := by decide +kernel
theorem dX11_spare_8 : decode cX11_spare 8 = .ok (.imul, 1) := by decide +kernel
theorem dX11_spare_9 : decode cX11_spare 9 = .ok (.istore_n 1, 1) := by decide +kernel
theorem dX11_spare_10 : decode cX11_spare 10 = .ok (.iconst 0, 1) := by decide +kernel
theorem dX11_spare_11 : decode cX11_spare 11 = .ok (.istore_n 2, 1) := by decide +kernel
theorem dX11_spare_12 : decode cX11_spare 12 = .ok (.iload_n 2, 1) := by decide +kernel
theorem dX11_spare_13 : decode cX11_spare 13 = .ok (.aload_n 0, 1) := by decide +kernel
theorem dX11_spare_14 : decode cX11_spare 14 = .ok (.getfield 9, 3) := by decide +kernel
theorem dX11_spare_17 : decode cX11_spare 17 = .ok (.iconst 0, 1) := by decide +kernel
theorem dX11_spare_18 : decode cX11_spare 18 = .ok (.iaload, 1) := by decide +kernel
theorem dX11_spare_19 : decode cX11_spare 19 = .ok (.if_icmp .ge 21, 3) := by decide +kernel
theorem dX11_spare_22 : decode cX11_spare 22 = .ok (.iload_n 1, 1) := by decide +kernel
theorem dX11_spare_23 : decode cX11_spare 23 = .ok (.aload_n 0, 1) := by decide +kernel
theorem dX11_spare_24 : decode cX11_spare 24 = .ok (.getfield 9, 3) := by decide +kernel
theorem dX11_spare_27 : decode cX11_spare 27 = .ok (.bipush 75, 2) := by decide +kernel
theorem dX11_spare_29 : decode cX11_spare 29 = .ok (.iload_n 2, 1) := by decide +kernel
theorem dX11_spare_30 : decode cX11_spare 30 = .ok (.iadd, 1) := by decide +kernel
theorem dX11_spare_31 : decode cX11_spare 31 = .ok (.iaload, 1) := by decide +kernel
theorem dX11_spare_32 : decode cX11_spare 32 = .ok (.iadd, 1) := by decide +kernel
theorem dX11_spare_33 : decode cX11_spare 33 = .ok (.istore_n 1, 1) := by decide +kernel
theorem dX11_spare_34 : decode cX11_spare 34 = .ok (.iinc 2 1, 3) := by decide +kernel
theorem dX11_spare_37 : decode cX11_spare 37 = .ok (.goto (-25), 3) := by decide +kernel
theorem dX11_spare_40 : decode cX11_spare 40 = .ok (.iload_n 1, 1) := by decide +kernel
theorem dX11_spare_41 : decode cX11_spare 41 = .ok (.ireturn, 1) := by decide +kernel
theorem dX11_toThief_0 : decode cX11_toThief 0 = .ok (.bipush 60, 2) := by decide +kernel
theorem dX11_toThief_2 : decode cX11_toThief 2 = .ok (.aload_n 0, 1) := by decide +kernel
theorem dX11_toThief_3 : decode cX11_toThief 3 = .ok (.getfield 9, 3) := by decide +kernel
theorem dX11_toThief_6 : decode cX11_toThief 6 = .ok (.bipush 35, 2) := by decide +kernel
theorem dX11_toThief_8 : decode cX11_toThief 8 = .ok (.iload_n 1, 1) := by decide +kernel
theorem dX11_toThief_9 : decode cX11_toThief 9 = .ok (.iadd, 1) := by decide +kernel
theorem dX11_toThief_10 : decode cX11_toThief 10 = .ok (.iaload, 1) := by decide +kernel
theorem dX11_toThief_11 : decode cX11_toThief 11 = .ok (.imul, 1) := by decide +kernel
theorem dX11_toThief_12 : decode cX11_toThief 12 = .ok (.aload_n 0, 1) := by decide +kernel
theorem dX11_toThief_13 : decode cX11_toThief 13 = .ok (.getfield 9, 3) := by decide +kernel
theorem dX11_toThief_16 : decode cX11_toThief 16 = .ok (.bipush 75, 2) := by decide +kernel
theorem dX11_toThief_18 : decode cX11_toThief 18 = .ok (.iload_n 1, 1) := by decide +kernel
theorem dX11_toThief_19 : decode cX11_toThief 19 = .ok (.iadd, 1) := by decide +kernel
theorem dX11_toThief_20 : decode cX11_toThief 20 = .ok (.iaload, 1) := by decide +kernel
theorem dX11_toThief_21 : decode cX11_toThief 21 = .ok (.aload_n 0, 1) := by decide +kernel
theorem dX11_toThief_22 : decode cX11_toThief 22 = .ok (.getfield 9, 3) := by decide +kernel
theorem dX11_toThief_25 : decode cX11_toThief 25 = .ok (.bipush 45, 2) := by decide +kernel
theorem dX11_toThief_27 : decode cX11_toThief 27 = .ok (.iload_n 1, 1) := by decide +kernel
theorem dX11_toThief_28 : decode cX11_toThief 28 = .ok (.iadd, 1) := by decide +kernel
theorem dX11_toThief_29 : decode cX11_toThief 29 = .ok (.iaload, 1) := by decide +kernel
theorem dX11_toThief_30 : decode cX11_toThief 30 = .ok (.imul, 1) := by decide +kernel
theorem dX11_toThief_31 : decode cX11_toThief 31 = .ok (.isub, 1) := by decide +kernel
theorem dX11_toThief_32 : decode cX11_toThief 32 = .ok (.ireturn, 1) := by decide +kernel
theorem dX11_toKeeper_0 : decode cX11_toKeeper 0 = .ok (.bipush 60, 2) := by decide +kernel
theorem dX11_toKeeper_2 : decode cX11_toKeeper 2 = .ok (.aload_n 0, 1) := by decide +kernel
theorem dX11_toKeeper_3 : decode cX11_toKeeper 3 = .ok (.getfield 9, 3) := by decide +kernel
theorem dX11_toKeeper_6 : decode cX11_toKeeper 6 = .ok (.bipush 25, 2) := by decide +kernel
theorem dX11_toKeeper_8 : decode cX11_toKeeper 8 = .ok (.iload_n 1, 1) := by decide +kernel
theorem dX11_toKeeper_9 : decode cX11_toKeeper 9 = .ok (.iadd, 1) := by decide +kernel
theorem dX11_toKeeper_10 : decode cX11_toKeeper 10 = .ok (.iaload, 1) := by decide +kernel
theorem dX11_toKeeper_11 : decode cX11_toKeeper 11 = .ok (.imul, 1) := by decide +kernel
theorem dX11_toKeeper_12 : decode cX11_toKeeper 12 = .ok (.aload_n 0, 1) := by decide +kernel
theorem dX11_toKeeper_13 : decode cX11_toKeeper 13 = .ok (.getfield 9, 3) := by decide +kernel
theorem dX11_toKeeper_16 : decode cX11_toKeeper 16 = .ok (.bipush 75, 2) := by decide +kernel
theorem dX11_toKeeper_18 : decode cX11_toKeeper 18 = .ok (.iload_n 1, 1) := by decide +kernel
theorem dX11_toKeeper_19 : decode cX11_toKeeper 19 = .ok (.iadd, 1) := by decide +kernel
theorem dX11_toKeeper_20 : decode cX11_toKeeper 20 = .ok (.iaload, 1) := by decide +kernel
theorem dX11_toKeeper_21 : decode cX11_toKeeper 21 = .ok (.aload_n 0, 1) := by decide +kernel
theorem dX11_toKeeper_22 : decode cX11_toKeeper 22 = .ok (.getfield 9, 3) := by decide +kernel
theorem dX11_toKeeper_25 : decode cX11_toKeeper 25 = .ok (.bipush 15, 2) := by decide +kernel
theorem dX11_toKeeper_27 : decode cX11_toKeeper 27 = .ok (.iload_n 1, 1) := by decide +kernel
theorem dX11_toKeeper_28 : decode cX11_toKeeper 28 = .ok (.iadd, 1) := by decide +kernel
theorem dX11_toKeeper_29 : decode cX11_toKeeper 29 = .ok (.iaload, 1) := by decide +kernel
theorem dX11_toKeeper_30 : decode cX11_toKeeper 30 = .ok (.aload_n 0, 1) := by decide +kernel
theorem dX11_toKeeper_31 : decode cX11_toKeeper 31 = .ok (.getfield 9, 3) := by decide +kernel
theorem dX11_toKeeper_34 : decode cX11_toKeeper 34 = .ok (.bipush 25, 2) := by decide +kernel
theorem dX11_toKeeper_36 : decode cX11_toKeeper 36 = .ok (.iload_n 1, 1) := by decide +kernel
theorem dX11_toKeeper_37 : decode cX11_toKeeper 37 = .ok (.iadd, 1) := by decide +kernel
theorem dX11_toKeeper_38 : decode cX11_toKeeper 38 = .ok (.iaload, 1) := by decide +kernel
theorem dX11_toKeeper_39 : decode cX11_toKeeper 39 = .ok (.isub, 1) := by decide +kernel
theorem dX11_toKeeper_40 : decode cX11_toKeeper 40 = .ok (.imul, 1) := by decide +kernel
theorem dX11_toKeeper_41 : decode cX11_toKeeper 41 = .ok (.iadd, 1) := by decide +kernel
theorem dX11_toKeeper_42 : decode cX11_toKeeper 42 = .ok (.ireturn, 1) := by decide +kernel
set_option maxRecDepth 20000 in
theorem ggX11_comesTo_X11_toThief : GoodIn wsX11_comesTo wsX11_toThief := goodIn_r _ [6, 1, 11, 12, 13, 14, 15, 16, 17, 18, 19, 20, 21, 22, 23, 24, 25, 26, 27, 28, 29] (by decide +kernel) (by decide +kernel)
set_option maxRecDepth 20000 in
theorem gX11_comesTo_X11_toThief : GoodIn wsX11_comesTo (wsV RX11 118 RX11 yX11_toThief wsX11_toThief) := goodIn_app (goodIn_of _ (by decide +kernel)) ggX11_comesTo_X11_toThief
set_option maxRecDepth 20000 in
theorem ggX11_comesTo_X11_toKeeper : GoodIn wsX11_comesTo wsX11_toKeeper := goodIn_r _ [10, 1, 11, 12, 13, 14, 15, 16, 17, 18, 19, 20, 21, 22, 23, 24, 25, 26, 27, 28, 29] (by decide +kernel) (by decide +kernel)
set_option maxRecDepth 20000 in
theorem gX11_comesTo_X11_toKeeper : GoodIn wsX11_comesTo (wsV RX11 121 RX11 yX11_toKeeper wsX11_toKeeper) := goodIn_app (goodIn_of _ (by decide +kernel)) ggX11_comesTo_X11_toKeeper
theorem dX11_comesTo_0 : decode cX11_comesTo 0 = .ok (.iconst (-1), 1) := by decide +kernel
theorem dX11_comesTo_1 : decode cX11_comesTo 1 = .ok (.istore_n 1, 1) := by decide +kernel
theorem dX11_comesTo_2 : decode cX11_comesTo 2 = .ok (.iconst 0, 1) := by decide +kernel
theorem dX11_comesTo_3 : decode cX11_comesTo 3 = .ok (.istore_n 2, 1) := by decide +kernel
theorem dX11_comesTo_4 : decode cX11_comesTo 4 = .ok (.iload_n 2, 1) := by decide +kernel
theorem dX11_comesTo_5 : decode cX11_comesTo 5 = .ok (.aload_n 0, 1) := by decide +kernel
theorem dX11_comesTo_6 : decode cX11_comesTo 6 = .ok (.getfield 9, 3) := by decide +kernel
theorem dX11_comesTo_9 : decode cX11_comesTo 9 = .ok (.iconst 0, 1) := by decide +kernel
theorem dX11_comesTo_10 : decode cX11_comesTo 10 = .ok (.iaload, 1) := by decide +kernel
theorem dX11_comesTo_11 : decode cX11_comesTo 11 = .ok (.if_icmp .ge 68, 3) := by decide +kernel
theorem dX11_comesTo_14 : decode cX11_comesTo 14 = .ok (.iload_n 1, 1) := by decide +kernel
theorem dX11_comesTo_15 : decode cX11_comesTo 15 = .ok (.ifCond .lt 42, 3) := by decide +kernel
theorem dX11_comesTo_18 : decode cX11_comesTo 18 = .ok (.aload_n 0, 1) := by decide +kernel
theorem dX11_comesTo_19 : decode cX11_comesTo 19 = .ok (.iload_n 2, 1) := by decide +kernel
theorem dX11_comesTo_20 : decode cX11_comesTo 20 = .ok (.invokevirtual 118, 3) := by decide +kernel
theorem dX11_comesTo_23 : decode cX11_comesTo 23 = .ok (.aload_n 0, 1) := by decide +kernel
theorem dX11_comesTo_24 : decode cX11_comesTo 24 = .ok (.iload_n 1, 1) := by decide +kernel
theorem dX11_comesTo_25 : decode cX11_comesTo 25 = .ok (.invokevirtual 118, 3) := by decide +kernel
theorem dX11_comesTo_28 : decode cX11_comesTo 28 = .ok (.if_icmp .gt 29, 3) := by decide +kernel
theorem dX11_comesTo_31 : decode cX11_comesTo 31 = .ok (.aload_n 0, 1) := by decide +kernel
theorem dX11_comesTo_32 : decode cX11_comesTo 32 = .ok (.iload_n 2, 1) := by decide +kernel
theorem dX11_comesTo_33 : decode cX11_comesTo 33 = .ok (.invokevirtual 118, 3) := by decide +kernel
theorem dX11_comesTo_36 : decode cX11_comesTo 36 = .ok (.aload_n 0, 1) := by decide +kernel
theorem dX11_comesTo_37 : decode cX11_comesTo 37 = .ok (.iload_n 1, 1) := by decide +kernel
theorem dX11_comesTo_38 : decode cX11_comesTo 38 = .ok (.invokevirtual 118, 3) := by decide +kernel
theorem dX11_comesTo_41 : decode cX11_comesTo 41 = .ok (.if_icmp .ne 20, 3) := by decide +kernel
theorem dX11_comesTo_44 : decode cX11_comesTo 44 = .ok (.aload_n 0, 1) := by decide +kernel
theorem dX11_comesTo_45 : decode cX11_comesTo 45 = .ok (.iload_n 2, 1) := by decide +kernel
theorem dX11_comesTo_46 : decode cX11_comesTo 46 = .ok (.invokevirtual 121, 3) := by decide +kernel
theorem dX11_comesTo_49 : decode cX11_comesTo 49 = .ok (.aload_n 0, 1) := by decide +kernel
theorem dX11_comesTo_50 : decode cX11_comesTo 50 = .ok (.iload_n 1, 1) := by decide +kernel
theorem dX11_comesTo_51 : decode cX11_comesTo 51 = .ok (.invokevirtual 121, 3) := by decide +kernel
theorem dX11_comesTo_54 : decode cX11_comesTo 54 = .ok (.if_icmp .le 7, 3) := by decide +kernel
theorem dX11_comesTo_57 : decode cX11_comesTo 57 = .ok (.iconst 1, 1) := by decide +kernel
theorem dX11_comesTo_58 : decode cX11_comesTo 58 = .ok (.goto 4, 3) := by decide +kernel
theorem dX11_comesTo_61 : decode cX11_comesTo 61 = .ok (.iconst 0, 1) := by decide +kernel
theorem dX11_comesTo_62 : decode cX11_comesTo 62 = .ok (.istore_n 3, 1) := by decide +kernel
theorem dX11_comesTo_63 : decode cX11_comesTo 63 = .ok (.iload_n 3, 1) := by decide +kernel
theorem dX11_comesTo_64 : decode cX11_comesTo 64 = .ok (.ifCond .eq 7, 3) := by decide +kernel
theorem dX11_comesTo_67 : decode cX11_comesTo 67 = .ok (.iload_n 2, 1) := by decide +kernel
theorem dX11_comesTo_68 : decode cX11_comesTo 68 = .ok (.goto 4, 3) := by decide +kernel
theorem dX11_comesTo_71 : decode cX11_comesTo 71 = .ok (.iload_n 1, 1) := by decide +kernel
theorem dX11_comesTo_72 : decode cX11_comesTo 72 = .ok (.istore_n 1, 1) := by decide +kernel
theorem dX11_comesTo_73 : decode cX11_comesTo 73 = .ok (.iinc 2 1, 3) := by decide +kernel
theorem dX11_comesTo_76 : decode cX11_comesTo 76 = .ok (.goto (-72), 3) := by decide +kernel
theorem dX11_comesTo_79 : decode cX11_comesTo 79 = .ok (.iload_n 1, 1) := by decide +kernel
theorem dX11_comesTo_80 : decode cX11_comesTo 80 = .ok (.ireturn, 1) := by decide +kernel
set_option maxRecDepth 20000 in
theorem ggX11_comes_X11_comesTo : GoodIn wsX11_comes wsX11_comesTo := goodIn_r _ [6, 7, 8, 9, 10, 5, 11, 12, 13, 14, 15, 16, 17, 18, 19, 20, 21, 22, 23, 24, 25, 26, 27, 28, 29, 30, 31, 32, 33, 34] (by decide +kernel) (by decide +kernel)
set_option maxRecDepth 20000 in
theorem gX11_comes_X11_comesTo : GoodIn wsX11_comes (wsV RX11 124 RX11 yX11_comesTo wsX11_comesTo) := goodIn_app (goodIn_of _ (by decide +kernel)) ggX11_comes_X11_comesTo
theorem dX11_comes_0 : decode cX11_comes 0 = .ok (.aload_n 0, 1) := by decide +kernel
theorem dX11_comes_1 : decode cX11_comes 1 = .ok (.invokevirtual 124, 3) := by decide +kernel
theorem dX11_comes_4 : decode cX11_comes 4 = .ok (.istore_n 1, 1) := by decide +kernel
theorem dX11_comes_5 : decode cX11_comes 5 = .ok (.iload_n 1, 1) := by decide +kernel
theorem dX11_comes_6 : decode cX11_comes 6 = .ok (.ifCond .ge 8, 3) := by decide +kernel
theorem dX11_comes_9 : decode cX11_comes 9 = .ok (.ldc 113, 2) := by decide +kernel
theorem dX11_comes_11 : decode cX11_comes 11 = .ok (.goto 4, 3) := by decide +kernel
theorem dX11_comes_14 : decode cX11_comes 14 = .ok (.iload_n 1, 1) := by decide +kernel
theorem dX11_comes_15 : decode cX11_comes 15 = .ok (.ireturn, 1) := by decide +kernel
set_option maxRecDepth 20000 in
theorem ggX11_handWorth_X11_comesTo : GoodIn wsX11_handWorth wsX11_comesTo := goodIn_r _ [7, 8, 9, 10, 11, 6, 12, 13, 14, 15, 16, 25, 26, 27, 28, 29, 30, 31, 32, 33, 34, 35, 36, 37, 38, 39, 40, 41, 42, 43] (by decide +kernel) (by decide +kernel)
set_option maxRecDepth 20000 in
theorem gX11_handWorth_X11_comesTo : GoodIn wsX11_handWorth (wsV RX11 124 RX11 yX11_comesTo wsX11_comesTo) := goodIn_app (goodIn_of _ (by decide +kernel)) ggX11_handWorth_X11_comesTo
set_option maxRecDepth 20000 in
theorem ggX11_handWorth_X11_toKeeper : GoodIn wsX11_handWorth wsX11_toKeeper := goodIn_r _ [16, 8, 25, 26, 27, 28, 29, 30, 31, 32, 33, 34, 35, 36, 37, 38, 39, 40, 41, 42, 43] (by decide +kernel) (by decide +kernel)
set_option maxRecDepth 20000 in
theorem gX11_handWorth_X11_toKeeper : GoodIn wsX11_handWorth (wsV RX11 121 RX11 yX11_toKeeper wsX11_toKeeper) := goodIn_app (goodIn_of _ (by decide +kernel)) ggX11_handWorth_X11_toKeeper
set_option maxRecDepth 20000 in
theorem ggX11_handWorth_X11_fraction : GoodIn wsX11_handWorth wsX11_fraction := goodIn_r _ [20, 21, 22, 23, 6, 24, 25, 26, 27, 28, 29, 30, 31, 32, 33, 34, 35, 36, 37, 38, 39, 40, 41, 42, 43] (by decide +kernel) (by decide +kernel)
set_option maxRecDepth 20000 in
theorem gX11_handWorth_X11_fraction : GoodIn wsX11_handWorth (wsV RX11 114 RX11 yX11_fraction wsX11_fraction) := goodIn_app (goodIn_of _ (by decide +kernel)) ggX11_handWorth_X11_fraction
theorem dX11_handWorth_0 : decode cX11_handWorth 0 = .ok (.aload_n 0, 1) := by decide +kernel
theorem dX11_handWorth_1 : decode cX11_handWorth 1 = .ok (.invokevirtual 124, 3) := by decide +kernel
theorem dX11_handWorth_4 : decode cX11_handWorth 4 = .ok (.istore_n 1, 1) := by decide +kernel
theorem dX11_handWorth_5 : decode cX11_handWorth 5 = .ok (.iload_n 1, 1) := by decide +kernel
theorem dX11_handWorth_6 : decode cX11_handWorth 6 = .ok (.ifCond .ge 8, 3) := by decide +kernel
theorem dX11_handWorth_9 : decode cX11_handWorth 9 = .ok (.ldc 113, 2) := by decide +kernel
theorem dX11_handWorth_11 : decode cX11_handWorth 11 = .ok (.goto 16, 3) := by decide +kernel
theorem dX11_handWorth_14 : decode cX11_handWorth 14 = .ok (.aload_n 0, 1) := by decide +kernel
theorem dX11_handWorth_15 : decode cX11_handWorth 15 = .ok (.aload_n 0, 1) := by decide +kernel
theorem dX11_handWorth_16 : decode cX11_handWorth 16 = .ok (.iload_n 1, 1) := by decide +kernel
theorem dX11_handWorth_17 : decode cX11_handWorth 17 = .ok (.invokevirtual 121, 3) := by decide +kernel
theorem dX11_handWorth_20 : decode cX11_handWorth 20 = .ok (.i2l, 1) := by decide +kernel
theorem dX11_handWorth_21 : decode cX11_handWorth 21 = .ok (.ldc2_w 76, 3) := by decide +kernel
theorem dX11_handWorth_24 : decode cX11_handWorth 24 = .ok (.invokevirtual 114, 3) := by decide +kernel
theorem dX11_handWorth_27 : decode cX11_handWorth 27 = .ok (.ireturn, 1) := by decide +kernel
set_option maxRecDepth 20000 in
theorem ggX11_errs_X11_within : GoodIn wsX11_errs wsX11_within := goodIn_r _ [8] (by decide +kernel) (by decide +kernel)
set_option maxRecDepth 20000 in
theorem gX11_errs_X11_within : GoodIn wsX11_errs (va_wsS RX11 47 yX11_within wsX11_within) := goodIn_app (goodIn_of _ (by decide +kernel)) ggX11_errs_X11_within
set_option maxRecDepth 20000 in
theorem ggX11_errs_X11_comesTo : GoodIn wsX11_errs wsX11_comesTo := goodIn_r _ [12, 3, 13, 14, 15, 7, 16, 17, 18, 19, 20, 29, 30, 31, 32, 33, 34, 35, 36, 37, 38, 39, 40, 41, 42, 43, 44, 45, 46, 47] (by decide +kernel) (by decide +kernel)
set_option maxRecDepth 20000 in
theorem gX11_errs_X11_comesTo : GoodIn wsX11_errs (wsV RX11 124 RX11 yX11_comesTo wsX11_comesTo) := goodIn_app (goodIn_of _ (by decide +kernel)) ggX11_errs_X11_comesTo
set_option maxRecDepth 20000 in
theorem ggX11_errs_X11_toKeeper : GoodIn wsX11_errs wsX11_toKeeper := goodIn_r _ [20, 3, 29, 30, 31, 32, 33, 34, 35, 36, 37, 38, 39, 40, 41, 42, 43, 44, 45, 46, 47] (by decide +kernel) (by decide +kernel)
set_option maxRecDepth 20000 in
theorem gX11_errs_X11_toKeeper : GoodIn wsX11_errs (wsV RX11 121 RX11 yX11_toKeeper wsX11_toKeeper) := goodIn_app (goodIn_of _ (by decide +kernel)) ggX11_errs_X11_toKeeper
set_option maxRecDepth 20000 in
theorem ggX11_errs_X11_toThief : GoodIn wsX11_errs wsX11_toThief := goodIn_r _ [16, 3, 29, 30, 31, 32, 33, 34, 35, 36, 37, 38, 39, 40, 41, 42, 43, 44, 45, 46, 47] (by decide +kernel) (by decide +kernel)
set_option maxRecDepth 20000 in
theorem gX11_errs_X11_toThief : GoodIn wsX11_errs (wsV RX11 118 RX11 yX11_toThief wsX11_toThief) := goodIn_app (goodIn_of _ (by decide +kernel)) ggX11_errs_X11_toThief
set_option maxRecDepth 20000 in
theorem ggX11_errs_X11_fraction : GoodIn wsX11_errs wsX11_fraction := goodIn_r _ [24, 25, 26, 27, 7, 28, 29, 30, 31, 32, 33, 34, 35, 36, 37, 38, 39, 40, 41, 42, 43, 44, 45, 46, 47] (by decide +kernel) (by decide +kernel)
set_option maxRecDepth 20000 in
theorem gX11_errs_X11_fraction : GoodIn wsX11_errs (wsV RX11 114 RX11 yX11_fraction wsX11_fraction) := goodIn_app (goodIn_of _ (by decide +kernel)) ggX11_errs_X11_fraction
theorem dX11_errs_0 : decode cX11_errs 0 = .ok (.iload_n 1, 1) := by decide +kernel
theorem dX11_errs_1 : decode cX11_errs 1 = .ok (.iconst 0, 1) := by decide +kernel
theorem dX11_errs_2 : decode cX11_errs 2 = .ok (.sipush 3600, 3) := by decide +kernel
theorem dX11_errs_5 : decode cX11_errs 5 = .ok (.invokestatic 47, 3) := by decide +kernel
theorem dX11_errs_8 : decode cX11_errs 8 = .ok (.ifCond .ne 6, 3) := by decide +kernel
theorem dX11_errs_11 : decode cX11_errs 11 = .ok (.ldc 55, 2) := by decide +kernel
theorem dX11_errs_13 : decode cX11_errs 13 = .ok (.ireturn, 1) := by decide +kernel
theorem dX11_errs_14 : decode cX11_errs 14 = .ok (.aload_n 0, 1) := by decide +kernel
theorem dX11_errs_15 : decode cX11_errs 15 = .ok (.invokevirtual 124, 3) := by decide +kernel
theorem dX11_errs_18 : decode cX11_errs 18 = .ok (.istore_n 2, 1) := by decide +kernel
theorem dX11_errs_19 : decode cX11_errs 19 = .ok (.iload_n 2, 1) := by decide +kernel
theorem dX11_errs_20 : decode cX11_errs 20 = .ok (.ifCond .ge 6, 3) := by decide +kernel
theorem dX11_errs_23 : decode cX11_errs 23 = .ok (.ldc 113, 2) := by decide +kernel
theorem dX11_errs_25 : decode cX11_errs 25 = .ok (.ireturn, 1) := by decide +kernel
theorem dX11_errs_26 : decode cX11_errs 26 = .ok (.aload_n 0, 1) := by decide +kernel
theorem dX11_errs_27 : decode cX11_errs 27 = .ok (.iload_n 2, 1) := by decide +kernel
theorem dX11_errs_28 : decode cX11_errs 28 = .ok (.invokevirtual 121, 3) := by decide +kernel
theorem dX11_errs_31 : decode cX11_errs 31 = .ok (.istore_n 3, 1) := by decide +kernel
theorem dX11_errs_32 : decode cX11_errs 32 = .ok (.iconst 0, 1) := by decide +kernel
theorem dX11_errs_33 : decode cX11_errs 33 = .ok (.istore 4, 2) := by decide +kernel
theorem dX11_errs_35 : decode cX11_errs 35 = .ok (.iload 4, 2) := by decide +kernel
theorem dX11_errs_37 : decode cX11_errs 37 = .ok (.aload_n 0, 1) := by decide +kernel
theorem dX11_errs_38 : decode cX11_errs 38 = .ok (.getfield 9, 3) := by decide +kernel
theorem dX11_errs_41 : decode cX11_errs 41 = .ok (.iconst 0, 1) := by decide +kernel
theorem dX11_errs_42 : decode cX11_errs 42 = .ok (.iaload, 1) := by decide +kernel
theorem dX11_errs_43 : decode cX11_errs 43 = .ok (.if_icmp .ge 42, 3) := by decide +kernel
theorem dX11_errs_46 : decode cX11_errs 46 = .ok (.aload_n 0, 1) := by decide +kernel
theorem dX11_errs_47 : decode cX11_errs 47 = .ok (.iload 4, 2) := by decide +kernel
theorem dX11_errs_49 : decode cX11_errs 49 = .ok (.invokevirtual 118, 3) := by decide +kernel
theorem dX11_errs_52 : decode cX11_errs 52 = .ok (.aload_n 0, 1) := by decide +kernel
theorem dX11_errs_53 : decode cX11_errs 53 = .ok (.iload_n 2, 1) := by decide +kernel
theorem dX11_errs_54 : decode cX11_errs 54 = .ok (.invokevirtual 118, 3) := by decide +kernel
theorem dX11_errs_57 : decode cX11_errs 57 = .ok (.iload_n 1, 1) := by decide +kernel
theorem dX11_errs_58 : decode cX11_errs 58 = .ok (.isub, 1) := by decide +kernel
theorem dX11_errs_59 : decode cX11_errs 59 = .ok (.if_icmp .lt 20, 3) := by decide +kernel
theorem dX11_errs_62 : decode cX11_errs 62 = .ok (.aload_n 0, 1) := by decide +kernel
theorem dX11_errs_63 : decode cX11_errs 63 = .ok (.iload 4, 2) := by decide +kernel
theorem dX11_errs_65 : decode cX11_errs 65 = .ok (.invokevirtual 121, 3) := by decide +kernel
theorem dX11_errs_68 : decode cX11_errs 68 = .ok (.iload_n 3, 1) := by decide +kernel
theorem dX11_errs_69 : decode cX11_errs 69 = .ok (.if_icmp .ge 10, 3) := by decide +kernel
theorem dX11_errs_72 : decode cX11_errs 72 = .ok (.aload_n 0, 1) := by decide +kernel
theorem dX11_errs_73 : decode cX11_errs 73 = .ok (.iload 4, 2) := by decide +kernel
theorem dX11_errs_75 : decode cX11_errs 75 = .ok (.invokevirtual 121, 3) := by decide +kernel
theorem dX11_errs_78 : decode cX11_errs 78 = .ok (.istore_n 3, 1) := by decide +kernel
theorem dX11_errs_79 : decode cX11_errs 79 = .ok (.iinc 4 1, 3) := by decide +kernel
theorem dX11_errs_82 : decode cX11_errs 82 = .ok (.goto (-47), 3) := by decide +kernel
theorem dX11_errs_85 : decode cX11_errs 85 = .ok (.aload_n 0, 1) := by decide +kernel
theorem dX11_errs_86 : decode cX11_errs 86 = .ok (.iload_n 3, 1) := by decide +kernel
theorem dX11_errs_87 : decode cX11_errs 87 = .ok (.i2l, 1) := by decide +kernel
theorem dX11_errs_88 : decode cX11_errs 88 = .ok (.ldc2_w 76, 3) := by decide +kernel
theorem dX11_errs_91 : decode cX11_errs 91 = .ok (.invokevirtual 114, 3) := by decide +kernel
theorem dX11_errs_94 : decode cX11_errs 94 = .ok (.ireturn, 1) := by decide +kernel
theorem dX11_addEdge_0 : decode cX11_addEdge 0 = .ok (.iconst 0, 1) := by decide +kernel
theorem dX11_addEdge_1 : decode cX11_addEdge 1 = .ok (.istore_n 3, 1) := by decide +kernel
theorem dX11_addEdge_2 : decode cX11_addEdge 2 = .ok (.iload_n 3, 1) := by decide +kernel
theorem dX11_addEdge_3 : decode cX11_addEdge 3 = .ok (.aload_n 0, 1) := by decide +kernel
theorem dX11_addEdge_4 : decode cX11_addEdge 4 = .ok (.getfield 128, 3) := by decide +kernel
theorem dX11_addEdge_7 : decode cX11_addEdge 7 = .ok (.if_icmp .ge 20, 3) := by decide +kernel
theorem dX11_addEdge_10 : decode cX11_addEdge 10 = .ok (.aload_n 0, 1) := by decide +kernel
theorem dX11_addEdge_11 : decode cX11_addEdge 11 = .ok (.getfield 33, 3) := by decide +kernel
theorem dX11_addEdge_14 : decode cX11_addEdge 14 = .ok (.iload_n 3, 1) := by decide +kernel
theorem dX11_addEdge_15 : decode cX11_addEdge 15 = .ok (.laload, 1) := by decide +kernel
theorem dX11_addEdge_16 : decode cX11_addEdge 16 = .ok (.lload_n 1, 1) := by decide +kernel
theorem dX11_addEdge_17 : decode cX11_addEdge 17 = .ok (.lcmp, 1) := by decide +kernel
theorem dX11_addEdge_18 : decode cX11_addEdge 18 = .ok (.ifCond .ge 9, 3) := by decide +kernel
theorem dX11_addEdge_21 : decode cX11_addEdge 21 = .ok (.iinc 3 1, 3) := by decide +kernel
theorem dX11_addEdge_24 : decode cX11_addEdge 24 = .ok (.goto (-22), 3) := by decide +kernel
theorem dX11_addEdge_27 : decode cX11_addEdge 27 = .ok (.iload_n 3, 1) := by decide +kernel
theorem dX11_addEdge_28 : decode cX11_addEdge 28 = .ok (.aload_n 0, 1) := by decide +kernel
theorem dX11_addEdge_29 : decode cX11_addEdge 29 = .ok (.getfield 128, 3) := by decide +kernel
theorem dX11_addEdge_32 : decode cX11_addEdge 32 = .ok (.if_icmp .ge 15, 3) := by decide +kernel
theorem dX11_addEdge_35 : decode cX11_addEdge 35 = .ok (.aload_n 0, 1) := by decide +kernel
theorem dX11_addEdge_36 : decode cX11_addEdge 36 = .ok (.getfield 33, 3) := by decide +kernel
theorem dX11_addEdge_39 : decode cX11_addEdge 39 = .ok (.iload_n 3, 1) := by decide +kernel
theorem dX11_addEdge_40 : decode cX11_addEdge 40 = .ok (.laload, 1) := by decide +kernel
theorem dX11_addEdge_41 : decode cX11_addEdge 41 = .ok (.lload_n 1, 1) := by decide +kernel
theorem dX11_addEdge_42 : decode cX11_addEdge 42 = .ok (.lcmp, 1) := by decide +kernel
theorem dX11_addEdge_43 : decode cX11_addEdge 43 = .ok (.ifCond .ne 4, 3) := by decide +kernel
theorem dX11_addEdge_46 : decode cX11_addEdge 46 = .ok (.return_, 1) := by decide +kernel
theorem dX11_addEdge_47 : decode cX11_addEdge 47 = .ok (.aload_n 0, 1) := by decide +kernel
theorem dX11_addEdge_48 : decode cX11_addEdge 48 = .ok (.getfield 128, 3) := by decide +kernel
theorem dX11_addEdge_51 : decode cX11_addEdge 51 = .ok (.istore 4, 2) := by decide +kernel
theorem dX11_addEdge_53 : decode cX11_addEdge 53 = .ok (.iload 4, 2) := by decide +kernel
theorem dX11_addEdge_55 : decode cX11_addEdge 55 = .ok (.iload_n 3, 1) := by decide +kernel
theorem dX11_addEdge_56 : decode cX11_addEdge 56 = .ok (.if_icmp .le 25, 3) := by decide +kernel
theorem dX11_addEdge_59 : decode cX11_addEdge 59 = .ok (.aload_n 0, 1) := by decide +kernel
theorem dX11_addEdge_60 : decode cX11_addEdge 60 = .ok (.getfield 33, 3) := by decide +kernel
theorem dX11_addEdge_63 : decode cX11_addEdge 63 = .ok (.iload 4, 2) := by decide +kernel
theorem dX11_addEdge_65 : decode cX11_addEdge 65 = .ok (.aload_n 0, 1) := by decide +kernel
theorem dX11_addEdge_66 : decode cX11_addEdge 66 = .ok (.getfield 33, 3) := by decide +kernel
theorem dX11_addEdge_69 : decode cX11_addEdge 69 = .ok (.iload 4, 2) := by decide +kernel
theorem dX11_addEdge_71 : decode cX11_addEdge 71 = .ok (.iconst 1, 1) := by decide +kernel
theorem dX11_addEdge_72 : decode cX11_addEdge 72 = .ok (.isub, 1) := by decide +kernel
theorem dX11_addEdge_73 : decode cX11_addEdge 73 = .ok (.laload, 1) := by decide +kernel
theorem dX11_addEdge_74 : decode cX11_addEdge 74 = .ok (.lastore, 1) := by decide +kernel
theorem dX11_addEdge_75 : decode cX11_addEdge 75 = .ok (.iinc 4 (-1), 3) := by decide +kernel
theorem dX11_addEdge_78 : decode cX11_addEdge 78 = .ok (.goto (-25), 3) := by decide +kernel
theorem dX11_addEdge_81 : decode cX11_addEdge 81 = .ok (.aload_n 0, 1) := by decide +kernel
theorem dX11_addEdge_82 : decode cX11_addEdge 82 = .ok (.getfield 33, 3) := by decide +kernel
theorem dX11_addEdge_85 : decode cX11_addEdge 85 = .ok (.iload_n 3, 1) := by decide +kernel
theorem dX11_addEdge_86 : decode cX11_addEdge 86 = .ok (.lload_n 1, 1) := by decide +kernel
theorem dX11_addEdge_87 : decode cX11_addEdge 87 = .ok (.lastore, 1) := by decide +kernel
theorem dX11_addEdge_88 : decode cX11_addEdge 88 = .ok (.aload_n 0, 1) := by decide +kernel
theorem dX11_addEdge_89 : decode cX11_addEdge 89 = .ok (.dup, 1) := by decide +kernel
theorem dX11_addEdge_90 : decode cX11_addEdge 90 = .ok (.getfield 128, 3) := by decide +kernel
theorem dX11_addEdge_93 : decode cX11_addEdge 93 = .ok (.iconst 1, 1) := by decide +kernel
theorem dX11_addEdge_94 : decode cX11_addEdge 94 = .ok (.iadd, 1) := by decide +kernel
theorem dX11_addEdge_95 : decode cX11_addEdge 95 = .ok (.putfield 128, 3) := by decide +kernel
theorem dX11_addEdge_98 : decode cX11_addEdge 98 = .ok (.return_, 1) := by decide +kernel
set_option maxRecDepth 20000 in
theorem ggX11_findLots_X11_findBest : GoodIn wsX11_findLots wsX11_findBest := goodIn_r _ [10, 11, 2, 12, 13, 14, 15, 16, 17, 18, 9, 19, 20, 21, 22, 23, 24, 25, 26, 27, 28, 4, 3, 29, 30, 31, 32, 33, 34, 35, 36, 41, 42, 43, 44, 45, 46, 47, 48, 49, 50, 51, 52, 53, 54, 55, 56, 57, 58, 59] (by decide +kernel) (by decide +kernel)
set_option maxRecDepth 20000 in
theorem gX11_findLots_X11_findBest : GoodIn wsX11_findLots (wsV RX11 109 RX11 yX11_findBest wsX11_findBest) := goodIn_app (goodIn_of _ (by decide +kernel)) ggX11_findLots_X11_findBest
set_option maxRecDepth 20000 in
theorem ggX11_findLots_X11_addEdge : GoodIn wsX11_findLots wsX11_addEdge := goodIn_r _ [40, 1, 5, 41, 42, 43, 44, 45, 46, 47, 48, 49, 50, 51, 52, 53, 54, 55, 56, 57, 58, 59] (by decide +kernel) (by decide +kernel)
set_option maxRecDepth 20000 in
theorem gX11_findLots_X11_addEdge : GoodIn wsX11_findLots (wsV RX11 131 RX11 yX11_addEdge wsX11_addEdge) := goodIn_app (goodIn_of _ (by decide +kernel)) ggX11_findLots_X11_addEdge
theorem dX11_findLots_0 : decode cX11_findLots 0 = .ok (.aload_n 0, 1) := by decide +kernel
theorem dX11_findLots_1 : decode cX11_findLots 1 = .ok (.invokevirtual 109, 3) := by decide +kernel
theorem dX11_findLots_4 : decode cX11_findLots 4 = .ok (.ifCond .ne 5, 3) := by decide +kernel
theorem dX11_findLots_7 : decode cX11_findLots 7 = .ok (.iconst 0, 1) := by decide +kernel
theorem dX11_findLots_8 : decode cX11_findLots 8 = .ok (.ireturn, 1) := by decide +kernel
theorem dX11_findLots_9 : decode cX11_findLots 9 = .ok (.aload_n 0, 1) := by decide +kernel
theorem dX11_findLots_10 : decode cX11_findLots 10 = .ok (.iconst 0, 1) := by decide +kernel
theorem dX11_findLots_11 : decode cX11_findLots 11 = .ok (.putfield 128, 3) := by decide +kernel
theorem dX11_findLots_14 : decode cX11_findLots 14 = .ok (.aload_n 0, 1) := by decide +kernel
theorem dX11_findLots_15 : decode cX11_findLots 15 = .ok (.lconst 0, 1) := by decide +kernel
theorem dX11_findLots_16 : decode cX11_findLots 16 = .ok (.invokevirtual 131, 3) := by decide +kernel
theorem dX11_findLots_19 : decode cX11_findLots 19 = .ok (.lconst 0, 1) := by decide +kernel
theorem dX11_findLots_20 : decode cX11_findLots 20 = .ok (.lstore_n 1, 1) := by decide +kernel
theorem dX11_findLots_21 : decode cX11_findLots 21 = .ok (.iconst 0, 1) := by decide +kernel
theorem dX11_findLots_22 : decode cX11_findLots 22 = .ok (.istore_n 3, 1) := by decide +kernel
theorem dX11_findLots_23 : decode cX11_findLots 23 = .ok (.iload_n 3, 1) := by decide +kernel
theorem dX11_findLots_24 : decode cX11_findLots 24 = .ok (.aload_n 0, 1) := by decide +kernel
theorem dX11_findLots_25 : decode cX11_findLots 25 = .ok (.getfield 9, 3) := by decide +kernel
theorem dX11_findLots_28 : decode cX11_findLots 28 = .ok (.iconst 0, 1) := by decide +kernel
theorem dX11_findLots_29 : decode cX11_findLots 29 = .ok (.iaload, 1) := by decide +kernel
theorem dX11_findLots_30 : decode cX11_findLots 30 = .ok (.if_icmp .ge 28, 3) := by decide +kernel
theorem dX11_findLots_33 : decode cX11_findLots 33 = .ok (.lload_n 1, 1) := by decide +kernel
theorem dX11_findLots_34 : decode cX11_findLots 34 = .ok (.aload_n 0, 1) := by decide +kernel
theorem dX11_findLots_35 : decode cX11_findLots 35 = .ok (.getfield 29, 3) := by decide +kernel
theorem dX11_findLots_38 : decode cX11_findLots 38 = .ok (.iload_n 3, 1) := by decide +kernel
theorem dX11_findLots_39 : decode cX11_findLots 39 = .ok (.laload, 1) := by decide +kernel
theorem dX11_findLots_40 : decode cX11_findLots 40 = .ok (.ladd, 1) := by decide +kernel
theorem dX11_findLots_41 : decode cX11_findLots 41 = .ok (.lstore_n 1, 1) := by decide +kernel
theorem dX11_findLots_42 : decode cX11_findLots 42 = .ok (.aload_n 0, 1) := by decide +kernel
theorem dX11_findLots_43 : decode cX11_findLots 43 = .ok (.lload_n 1, 1) := by decide +kernel
theorem dX11_findLots_44 : decode cX11_findLots 44 = .ok (.aload_n 0, 1) := by decide +kernel
theorem dX11_findLots_45 : decode cX11_findLots 45 = .ok (.getfield 97, 3) := by decide +kernel
theorem dX11_findLots_48 : decode cX11_findLots 48 = .ok (.lrem, 1) := by decide +kernel
theorem dX11_findLots_49 : decode cX11_findLots 49 = .ok (.invokevirtual 131, 3) := by decide +kernel
theorem dX11_findLots_52 : decode cX11_findLots 52 = .ok (.iinc 3 1, 3) := by decide +kernel
theorem dX11_findLots_55 : decode cX11_findLots 55 = .ok (.goto (-32), 3) := by decide +kernel
theorem dX11_findLots_58 : decode cX11_findLots 58 = .ok (.aload_n 0, 1) := by decide +kernel
theorem dX11_findLots_59 : decode cX11_findLots 59 = .ok (.getfield 33, 3) := by decide +kernel
theorem dX11_findLots_62 : decode cX11_findLots 62 = .ok (.aload_n 0, 1) := by decide +kernel
theorem dX11_findLots_63 : decode cX11_findLots 63 = .ok (.getfield 128, 3) := by decide +kernel
theorem dX11_findLots_66 : decode cX11_findLots 66 = .ok (.aload_n 0, 1) := by decide +kernel
theorem dX11_findLots_67 : decode cX11_findLots 67 = .ok (.getfield 97, 3) := by decide +kernel
theorem dX11_findLots_70 : decode cX11_findLots 70 = .ok (.lastore, 1) := by decide +kernel
theorem dX11_findLots_71 : decode cX11_findLots 71 = .ok (.iconst 1, 1) := by decide +kernel
theorem dX11_findLots_72 : decode cX11_findLots 72 = .ok (.ireturn, 1) := by decide +kernel
set_option maxRecDepth 20000 in
theorem ggX11_lots_X11_findLots : GoodIn wsX11_lots wsX11_findLots := goodIn_r _ [7, 1, 8, 9, 10, 11, 12, 13, 14, 6, 15, 16, 17, 18, 19, 20, 21, 22, 23, 24, 25, 26, 27, 28, 29, 30, 31, 32, 33, 34, 35, 36, 37, 38, 39, 40, 41, 42, 43, 44, 45, 46, 47, 48, 49, 50, 51, 52, 53, 54, 55, 56, 57, 58, 59, 60, 61, 62, 63, 64] (by decide +kernel) (by decide +kernel)
set_option maxRecDepth 20000 in
theorem gX11_lots_X11_findLots : GoodIn wsX11_lots (wsV RX11 135 RX11 yX11_findLots wsX11_findLots) := goodIn_app (goodIn_of _ (by decide +kernel)) ggX11_lots_X11_findLots
theorem dX11_lots_0 : decode cX11_lots 0 = .ok (.aload_n 0, 1) := by decide +kernel
theorem dX11_lots_1 : decode cX11_lots 1 = .ok (.invokevirtual 135, 3) := by decide +kernel
theorem dX11_lots_4 : decode cX11_lots 4 = .ok (.ifCond .eq 10, 3) := by decide +kernel
theorem dX11_lots_7 : decode cX11_lots 7 = .ok (.aload_n 0, 1) := by decide +kernel
theorem dX11_lots_8 : decode cX11_lots 8 = .ok (.getfield 128, 3) := by decide +kernel
theorem dX11_lots_11 : decode cX11_lots 11 = .ok (.goto 5, 3) := by decide +kernel
theorem dX11_lots_14 : decode cX11_lots 14 = .ok (.ldc 113, 2) := by decide +kernel
theorem dX11_lots_16 : decode cX11_lots 16 = .ok (.ireturn, 1) := by decide +kernel
set_option maxRecDepth 20000 in
theorem ggX11_team_X11_findLots : GoodIn wsX11_team wsX11_findLots := goodIn_r _ [11, 1, 3, 4, 6, 5, 12, 13, 14, 10, 15, 16, 17, 18, 19, 20, 21, 22, 23, 24, 25, 26, 27, 28, 29, 30, 31, 32, 33, 34, 35, 36, 37, 38, 39, 40, 41, 42, 43, 44, 45, 49, 50, 51, 52, 53, 54, 55, 56, 57, 58, 59, 60, 61, 62, 63, 64, 65, 66, 67] (by decide +kernel) (by decide +kernel)
set_option maxRecDepth 20000 in
theorem gX11_team_X11_findLots : GoodIn wsX11_team (wsV RX11 135 RX11 yX11_findLots wsX11_findLots) := goodIn_app (goodIn_of _ (by decide +kernel)) ggX11_team_X11_findLots
set_option maxRecDepth 20000 in
theorem ggX11_team_X11_within : GoodIn wsX11_team wsX11_within := goodIn_r _ [48] (by decide +kernel) (by decide +kernel)
set_option maxRecDepth 20000 in
theorem gX11_team_X11_within : GoodIn wsX11_team (va_wsS RX11 47 yX11_within wsX11_within) := goodIn_app (goodIn_of _ (by decide +kernel)) ggX11_team_X11_within
theorem dX11_team_0 : decode cX11_team 0 = .ok (.aload_n 0, 1) := by decide +kernel
theorem dX11_team_1 : decode cX11_team 1 = .ok (.invokevirtual 135, 3) := by decide +kernel
theorem dX11_team_4 : decode cX11_team 4 = .ok (.ifCond .eq 17, 3) := by decide +kernel
theorem dX11_team_7 : decode cX11_team 7 = .ok (.iload_n 1, 1) := by decide +kernel
theorem dX11_team_8 : decode cX11_team 8 = .ok (.iconst 0, 1) := by decide +kernel
theorem dX11_team_9 : decode cX11_team 9 = .ok (.aload_n 0, 1) := by decide +kernel
theorem dX11_team_10 : decode cX11_team 10 = .ok (.getfield 128, 3) := by decide +kernel
theorem dX11_team_13 : decode cX11_team 13 = .ok (.iconst 1, 1) := by decide +kernel
theorem dX11_team_14 : decode cX11_team 14 = .ok (.isub, 1) := by decide +kernel
theorem dX11_team_15 : decode cX11_team 15 = .ok (.invokestatic 47, 3) := by decide +kernel
theorem dX11_team_18 : decode cX11_team 18 = .ok (.ifCond .ne 6, 3) := by decide +kernel
theorem dX11_team_21 : decode cX11_team 21 = .ok (.ldc 113, 2) := by decide +kernel
theorem dX11_team_23 : decode cX11_team 23 = .ok (.ireturn, 1) := by decide +kernel
theorem dX11_team_24 : decode cX11_team 24 = .ok (.iconst 0, 1) := by decide +kernel
theorem dX11_team_25 : decode cX11_team 25 = .ok (.istore_n 2, 1) := by decide +kernel
theorem dX11_team_26 : decode cX11_team 26 = .ok (.lconst 0, 1) := by decide +kernel
theorem dX11_team_27 : decode cX11_team 27 = .ok (.lstore_n 3, 1) := by decide +kernel
theorem dX11_team_28 : decode cX11_team 28 = .ok (.iconst 0, 1) := by decide +kernel
theorem dX11_team_29 : decode cX11_team 29 = .ok (.istore 5, 2) := by decide +kernel
theorem dX11_team_31 : decode cX11_team 31 = .ok (.iload 5, 2) := by decide +kernel
theorem dX11_team_33 : decode cX11_team 33 = .ok (.aload_n 0, 1) := by decide +kernel
theorem dX11_team_34 : decode cX11_team 34 = .ok (.getfield 9, 3) := by decide +kernel
theorem dX11_team_37 : decode cX11_team 37 = .ok (.iconst 0, 1) := by decide +kernel
theorem dX11_team_38 : decode cX11_team 38 = .ok (.iaload, 1) := by decide +kernel
theorem dX11_team_39 : decode cX11_team 39 = .ok (.if_icmp .ge 69, 3) := by decide +kernel
theorem dX11_team_42 : decode cX11_team 42 = .ok (.lload_n 3, 1) := by decide +kernel
theorem dX11_team_43 : decode cX11_team 43 = .ok (.aload_n 0, 1) := by decide +kernel
theorem dX11_team_44 : decode cX11_team 44 = .ok (.getfield 29, 3) := by decide +kernel
theorem dX11_team_47 : decode cX11_team 47 = .ok (.iload 5, 2) := by decide +kernel
theorem dX11_team_49 : decode cX11_team 49 = .ok (.laload, 1) := by decide +kernel
theorem dX11_team_50 : decode cX11_team 50 = .ok (.ladd, 1) := by decide +kernel
theorem dX11_team_51 : decode cX11_team 51 = .ok (.lstore 6, 2) := by decide +kernel
theorem dX11_team_53 : decode cX11_team 53 = .ok (.aload_n 0, 1) := by decide +kernel
theorem dX11_team_54 : decode cX11_team 54 = .ok (.getfield 33, 3) := by decide +kernel
theorem dX11_team_57 : decode cX11_team 57 = .ok (.iload_n 1, 1) := by decide +kernel
theorem dX11_team_58 : decode cX11_team 58 = .ok (.laload, 1) := by decide +kernel
theorem dX11_team_59 : decode cX11_team 59 = .ok (.lstore 8, 2) := by decide +kernel
theorem dX11_team_61 : decode cX11_team 61 = .ok (.lload 8, 2) := by decide +kernel
theorem dX11_team_63 : decode cX11_team 63 = .ok (.lload 6, 2) := by decide +kernel
theorem dX11_team_65 : decode cX11_team 65 = .ok (.lcmp, 1) := by decide +kernel
theorem dX11_team_66 : decode cX11_team 66 = .ok (.ifCond .ge 33, 3) := by decide +kernel
theorem dX11_team_69 : decode cX11_team 69 = .ok (.iload_n 2, 1) := by decide +kernel
theorem dX11_team_70 : decode cX11_team 70 = .ok (.lload 8, 2) := by decide +kernel
theorem dX11_team_72 : decode cX11_team 72 = .ok (.lload_n 3, 1) := by decide +kernel
theorem dX11_team_73 : decode cX11_team 73 = .ok (.lcmp, 1) := by decide +kernel
theorem dX11_team_74 : decode cX11_team 74 = .ok (.ifCond .lt 10, 3) := by decide +kernel
theorem dX11_team_77 : decode cX11_team 77 = .ok (.iconst 1, 1) := by decide +kernel
theorem dX11_team_78 : decode cX11_team 78 = .ok (.iload 5, 2) := by decide +kernel
theorem dX11_team_80 : decode cX11_team 80 = .ok (.ishl, 1) := by decide +kernel
theorem dX11_team_81 : decode cX11_team 81 = .ok (.goto 4, 3) := by decide +kernel
theorem dX11_team_84 : decode cX11_team 84 = .ok (.iconst 0, 1) := by decide +kernel
theorem dX11_team_85 : decode cX11_team 85 = .ok (.ior, 1) := by decide +kernel
theorem dX11_team_86 : decode cX11_team 86 = .ok (.istore_n 2, 1) := by decide +kernel
theorem dX11_team_87 : decode cX11_team 87 = .ok (.lload 8, 2) := by decide +kernel
theorem dX11_team_89 : decode cX11_team 89 = .ok (.aload_n 0, 1) := by decide +kernel
theorem dX11_team_90 : decode cX11_team 90 = .ok (.getfield 97, 3) := by decide +kernel
theorem dX11_team_93 : decode cX11_team 93 = .ok (.ladd, 1) := by decide +kernel
theorem dX11_team_94 : decode cX11_team 94 = .ok (.lstore 8, 2) := by decide +kernel
theorem dX11_team_96 : decode cX11_team 96 = .ok (.goto (-35), 3) := by decide +kernel
theorem dX11_team_99 : decode cX11_team 99 = .ok (.lload 6, 2) := by decide +kernel
theorem dX11_team_101 : decode cX11_team 101 = .ok (.lstore_n 3, 1) := by decide +kernel
theorem dX11_team_102 : decode cX11_team 102 = .ok (.iinc 5 1, 3) := by decide +kernel
theorem dX11_team_105 : decode cX11_team 105 = .ok (.goto (-74), 3) := by decide +kernel
theorem dX11_team_108 : decode cX11_team 108 = .ok (.iload_n 2, 1) := by decide +kernel
theorem dX11_team_109 : decode cX11_team 109 = .ok (.ireturn, 1) := by decide +kernel
set_option maxRecDepth 20000 in
theorem ggX11_chance_X11_findLots : GoodIn wsX11_chance wsX11_findLots := goodIn_r _ [9, 1, 10, 11, 3, 2, 12, 13, 14, 8, 15, 16, 17, 18, 19, 20, 21, 22, 23, 24, 25, 26, 27, 28, 29, 30, 31, 32, 33, 34, 35, 36, 37, 38, 39, 40, 41, 42, 43, 44, 45, 57, 58, 59, 60, 61, 62, 63, 64, 65, 66, 67, 68, 69, 70, 71, 72, 73, 74, 75] (by decide +kernel) (by decide +kernel)
set_option maxRecDepth 20000 in
theorem gX11_chance_X11_findLots : GoodIn wsX11_chance (wsV RX11 135 RX11 yX11_findLots wsX11_findLots) := goodIn_app (goodIn_of _ (by decide +kernel)) ggX11_chance_X11_findLots
set_option maxRecDepth 20000 in
theorem ggX11_chance_X11_within : GoodIn wsX11_chance wsX11_within := goodIn_r _ [48] (by decide +kernel) (by decide +kernel)
set_option maxRecDepth 20000 in
theorem gX11_chance_X11_within : GoodIn wsX11_chance (va_wsS RX11 47 yX11_within wsX11_within) := goodIn_app (goodIn_of _ (by decide +kernel)) ggX11_chance_X11_within
set_option maxRecDepth 20000 in
theorem ggX11_chance_X11_fraction : GoodIn wsX11_chance wsX11_fraction := goodIn_r _ [52, 53, 54, 55, 8, 56, 57, 58, 59, 60, 61, 62, 63, 64, 65, 66, 67, 68, 69, 70, 71, 72, 73, 74, 75] (by decide +kernel) (by decide +kernel)
set_option maxRecDepth 20000 in
theorem gX11_chance_X11_fraction : GoodIn wsX11_chance (wsV RX11 114 RX11 yX11_fraction wsX11_fraction) := goodIn_app (goodIn_of _ (by decide +kernel)) ggX11_chance_X11_fraction
theorem dX11_chance_0 : decode cX11_chance 0 = .ok (.aload_n 0, 1) := by decide +kernel
theorem dX11_chance_1 : decode cX11_chance 1 = .ok (.invokevirtual 135, 3) := by decide +kernel
theorem dX11_chance_4 : decode cX11_chance 4 = .ok (.ifCond .eq 43, 3) := by decide +kernel
theorem dX11_chance_7 : decode cX11_chance 7 = .ok (.iload_n 1, 1) := by decide +kernel
theorem dX11_chance_8 : decode cX11_chance 8 = .ok (.iconst 0, 1) := by decide +kernel
theorem dX11_chance_9 : decode cX11_chance 9 = .ok (.aload_n 0, 1) := by decide +kernel
theorem dX11_chance_10 : decode cX11_chance 10 = .ok (.getfield 128, 3) := by decide +kernel
theorem dX11_chance_13 : decode cX11_chance 13 = .ok (.iconst 1, 1) := by decide +kernel
theorem dX11_chance_14 : decode cX11_chance 14 = .ok (.isub, 1) := by decide +kernel
theorem dX11_chance_15 : decode cX11_chance 15 = .ok (.invokestatic 47, 3) := by decide +kernel
theorem dX11_chance_18 : decode cX11_chance 18 = .ok (.ifCond .eq 29, 3) := by decide +kernel
theorem dX11_chance_21 : decode cX11_chance 21 = .ok (.aload_n 0, 1) := by decide +kernel
theorem dX11_chance_22 : decode cX11_chance 22 = .ok (.aload_n 0, 1) := by decide +kernel
theorem dX11_chance_23 : decode cX11_chance 23 = .ok (.getfield 33, 3) := by decide +kernel
theorem dX11_chance_26 : decode cX11_chance 26 = .ok (.iload_n 1, 1) := by decide +kernel
theorem dX11_chance_27 : decode cX11_chance 27 = .ok (.iconst 1, 1) := by decide +kernel
theorem dX11_chance_28 : decode cX11_chance 28 = .ok (.iadd, 1) := by decide +kernel
theorem dX11_chance_29 : decode cX11_chance 29 = .ok (.laload, 1) := by decide +kernel
theorem dX11_chance_30 : decode cX11_chance 30 = .ok (.aload_n 0, 1) := by decide +kernel
theorem dX11_chance_31 : decode cX11_chance 31 = .ok (.getfield 33, 3) := by decide +kernel
theorem dX11_chance_34 : decode cX11_chance 34 = .ok (.iload_n 1, 1) := by decide +kernel
theorem dX11_chance_35 : decode cX11_chance 35 = .ok (.laload, 1) := by decide +kernel
theorem dX11_chance_36 : decode cX11_chance 36 = .ok (.lsub, 1) := by decide +kernel
theorem dX11_chance_37 : decode cX11_chance 37 = .ok (.aload_n 0, 1) := by decide +kernel
theorem dX11_chance_38 : decode cX11_chance 38 = .ok (.getfield 97, 3) := by decide +kernel
theorem dX11_chance_41 : decode cX11_chance 41 = .ok (.invokevirtual 114, 3) := by decide +kernel
theorem dX11_chance_44 : decode cX11_chance 44 = .ok (.goto 5, 3) := by decide +kernel
theorem dX11_chance_47 : decode cX11_chance 47 = .ok (.ldc 113, 2) := by decide +kernel
theorem dX11_chance_49 : decode cX11_chance 49 = .ok (.ireturn, 1) := by decide +kernel
set_option maxRecDepth 20000 in
theorem ggX11_isPlace_X11_within : GoodIn wsX11_isPlace wsX11_within := goodIn_r _ [4] (by decide +kernel) (by decide +kernel)
set_option maxRecDepth 20000 in
theorem gX11_isPlace_X11_within : GoodIn wsX11_isPlace (va_wsS RX11 47 yX11_within wsX11_within) := goodIn_app (goodIn_of _ (by decide +kernel)) ggX11_isPlace_X11_within
theorem dX11_isPlace_0 : decode cX11_isPlace 0 = .ok (.iload_n 0, 1) := by decide +kernel
theorem dX11_isPlace_1 : decode cX11_isPlace 1 = .ok (.iconst 0, 1) := by decide +kernel
theorem dX11_isPlace_2 : decode cX11_isPlace 2 = .ok (.bipush 9, 2) := by decide +kernel
theorem dX11_isPlace_4 : decode cX11_isPlace 4 = .ok (.invokestatic 47, 3) := by decide +kernel
theorem dX11_isPlace_7 : decode cX11_isPlace 7 = .ok (.ireturn, 1) := by decide +kernel
set_option maxRecDepth 20000 in
theorem ggX11_road_X11_isPlace : GoodIn wsX11_road wsX11_isPlace := goodIn_r _ [6, 7, 8, 5, 9] (by decide +kernel) (by decide +kernel)
set_option maxRecDepth 20000 in
theorem gX11_road_X11_isPlace : GoodIn wsX11_road (va_wsS RX11 138 yX11_isPlace wsX11_isPlace) := goodIn_app (goodIn_of _ (by decide +kernel)) ggX11_road_X11_isPlace
set_option maxRecDepth 20000 in
theorem ggX11_road_X11_within : GoodIn wsX11_road wsX11_within := goodIn_r _ [9] (by decide +kernel) (by decide +kernel)
set_option maxRecDepth 20000 in
theorem gX11_road_X11_within : GoodIn wsX11_road (va_wsS RX11 47 yX11_within wsX11_within) := goodIn_app (goodIn_of _ (by decide +kernel)) ggX11_road_X11_within
theorem dX11_road_0 : decode cX11_road 0 = .ok (.aload_n 0, 1) := by decide +kernel
theorem dX11_road_1 : decode cX11_road 1 = .ok (.getfield 9, 3) := by decide +kernel
theorem dX11_road_4 : decode cX11_road 4 = .ok (.iconst 2, 1) := by decide +kernel
theorem dX11_road_5 : decode cX11_road 5 = .ok (.iaload, 1) := by decide +kernel
theorem dX11_road_6 : decode cX11_road 6 = .ok (.istore 4, 2) := by decide +kernel
theorem dX11_road_8 : decode cX11_road 8 = .ok (.iload_n 1, 1) := by decide +kernel
theorem dX11_road_9 : decode cX11_road 9 = .ok (.invokestatic 138, 3) := by decide +kernel
theorem dX11_road_12 : decode cX11_road 12 = .ok (.ifCond .eq 32, 3) := by decide +kernel
theorem dX11_road_15 : decode cX11_road 15 = .ok (.iload_n 2, 1) := by decide +kernel
theorem dX11_road_16 : decode cX11_road 16 = .ok (.invokestatic 138, 3) := by decide +kernel
theorem dX11_road_19 : decode cX11_road 19 = .ok (.ifCond .eq 25, 3) := by decide +kernel
theorem dX11_road_22 : decode cX11_road 22 = .ok (.iload_n 1, 1) := by decide +kernel
theorem dX11_road_23 : decode cX11_road 23 = .ok (.iload_n 2, 1) := by decide +kernel
theorem dX11_road_24 : decode cX11_road 24 = .ok (.if_icmp .eq 20, 3) := by decide +kernel
theorem dX11_road_27 : decode cX11_road 27 = .ok (.iload_n 3, 1) := by decide +kernel
theorem dX11_road_28 : decode cX11_road 28 = .ok (.iconst 1, 1) := by decide +kernel
theorem dX11_road_29 : decode cX11_road 29 = .ok (.bipush 100, 2) := by decide +kernel
theorem dX11_road_31 : decode cX11_road 31 = .ok (.invokestatic 47, 3) := by decide +kernel
theorem dX11_road_34 : decode cX11_road 34 = .ok (.ifCond .eq 10, 3) := by decide +kernel
theorem dX11_road_37 : decode cX11_road 37 = .ok (.iload 4, 2) := by decide +kernel
theorem dX11_road_39 : decode cX11_road 39 = .ok (.bipush 16, 2) := by decide +kernel
theorem dX11_road_41 : decode cX11_road 41 = .ok (.if_icmp .ne 6, 3) := by decide +kernel
theorem dX11_road_44 : decode cX11_road 44 = .ok (.ldc 55, 2) := by decide +kernel
theorem dX11_road_46 : decode cX11_road 46 = .ok (.ireturn, 1) := by decide +kernel
theorem dX11_road_47 : decode cX11_road 47 = .ok (.aload_n 0, 1) := by decide +kernel
theorem dX11_road_48 : decode cX11_road 48 = .ok (.getfield 9, 3) := by decide +kernel
theorem dX11_road_51 : decode cX11_road 51 = .ok (.bipush 85, 2) := by decide +kernel
theorem dX11_road_53 : decode cX11_road 53 = .ok (.iload 4, 2) := by decide +kernel
theorem dX11_road_55 : decode cX11_road 55 = .ok (.iadd, 1) := by decide +kernel
theorem dX11_road_56 : decode cX11_road 56 = .ok (.iload_n 1, 1) := by decide +kernel
theorem dX11_road_57 : decode cX11_road 57 = .ok (.iastore, 1) := by decide +kernel
theorem dX11_road_58 : decode cX11_road 58 = .ok (.aload_n 0, 1) := by decide +kernel
theorem dX11_road_59 : decode cX11_road 59 = .ok (.getfield 9, 3) := by decide +kernel
theorem dX11_road_62 : decode cX11_road 62 = .ok (.bipush 101, 2) := by decide +kernel
theorem dX11_road_64 : decode cX11_road 64 = .ok (.iload 4, 2) := by decide +kernel
theorem dX11_road_66 : decode cX11_road 66 = .ok (.iadd, 1) := by decide +kernel
theorem dX11_road_67 : decode cX11_road 67 = .ok (.iload_n 2, 1) := by decide +kernel
theorem dX11_road_68 : decode cX11_road 68 = .ok (.iastore, 1) := by decide +kernel
theorem dX11_road_69 : decode cX11_road 69 = .ok (.aload_n 0, 1) := by decide +kernel
theorem dX11_road_70 : decode cX11_road 70 = .ok (.getfield 9, 3) := by decide +kernel
theorem dX11_road_73 : decode cX11_road 73 = .ok (.bipush 117, 2) := by decide +kernel
theorem dX11_road_75 : decode cX11_road 75 = .ok (.iload 4, 2) := by decide +kernel
theorem dX11_road_77 : decode cX11_road 77 = .ok (.iadd, 1) := by decide +kernel
theorem dX11_road_78 : decode cX11_road 78 = .ok (.iload_n 3, 1) := by decide +kernel
theorem dX11_road_79 : decode cX11_road 79 = .ok (.iastore, 1) := by decide +kernel
theorem dX11_road_80 : decode cX11_road 80 = .ok (.aload_n 0, 1) := by decide +kernel
theorem dX11_road_81 : decode cX11_road 81 = .ok (.getfield 9, 3) := by decide +kernel
theorem dX11_road_84 : decode cX11_road 84 = .ok (.sipush 133, 3) := by decide +kernel
theorem dX11_road_87 : decode cX11_road 87 = .ok (.iload 4, 2) := by decide +kernel
theorem dX11_road_89 : decode cX11_road 89 = .ok (.iadd, 1) := by decide +kernel
theorem dX11_road_90 : decode cX11_road 90 = .ok (.iconst 0, 1) := by decide +kernel
theorem dX11_road_91 : decode cX11_road 91 = .ok (.iastore, 1) := by decide +kernel
theorem dX11_road_92 : decode cX11_road 92 = .ok (.aload_n 0, 1) := by decide +kernel
theorem dX11_road_93 : decode cX11_road 93 = .ok (.getfield 9, 3) := by decide +kernel
theorem dX11_road_96 : decode cX11_road 96 = .ok (.iconst 2, 1) := by decide +kernel
theorem dX11_road_97 : decode cX11_road 97 = .ok (.dup2, 1) := by decide +kernel
theorem dX11_road_98 : decode cX11_road 98 = .ok (.iaload, 1) := by decide +kernel
theorem dX11_road_99 : decode cX11_road 99 = .ok (.iconst 1, 1) := by decide +kernel
theorem dX11_road_100 : decode cX11_road 100 = .ok (.iadd, 1) := by decide +kernel
theorem dX11_road_101 : decode cX11_road 101 = .ok (.iastore, 1) := by decide +kernel
theorem dX11_road_102 : decode cX11_road 102 = .ok (.iload 4, 2) := by decide +kernel
theorem dX11_road_104 : decode cX11_road 104 = .ok (.ireturn, 1) := by decide +kernel
set_option maxRecDepth 20000 in
theorem ggX11_bar_X11_within : GoodIn wsX11_bar wsX11_within := goodIn_r _ [6] (by decide +kernel) (by decide +kernel)
set_option maxRecDepth 20000 in
theorem gX11_bar_X11_within : GoodIn wsX11_bar (va_wsS RX11 47 yX11_within wsX11_within) := goodIn_app (goodIn_of _ (by decide +kernel)) ggX11_bar_X11_within
theorem dX11_bar_0 : decode cX11_bar 0 = .ok (.iload_n 1, 1) := by decide +kernel
theorem dX11_bar_1 : decode cX11_bar 1 = .ok (.iconst 0, 1) := by decide +kernel
theorem dX11_bar_2 : decode cX11_bar 2 = .ok (.aload_n 0, 1) := by decide +kernel
theorem dX11_bar_3 : decode cX11_bar 3 = .ok (.getfield 9, 3) := by decide +kernel
theorem dX11_bar_6 : decode cX11_bar 6 = .ok (.iconst 2, 1) := by decide +kernel
theorem dX11_bar_7 : decode cX11_bar 7 = .ok (.iaload, 1) := by decide +kernel
theorem dX11_bar_8 : decode cX11_bar 8 = .ok (.iconst 1, 1) := by decide +kernel
theorem dX11_bar_9 : decode cX11_bar 9 = .ok (.isub, 1) := by decide +kernel
theorem dX11_bar_10 : decode cX11_bar 10 = .ok (.invokestatic 47, 3) := by decide +kernel
theorem dX11_bar_13 : decode cX11_bar 13 = .ok (.ifCond .ne 6, 3) := by decide +kernel
theorem dX11_bar_16 : decode cX11_bar 16 = .ok (.ldc 55, 2) := by decide +kernel
theorem dX11_bar_18 : decode cX11_bar 18 = .ok (.ireturn, 1) := by decide +kernel
theorem dX11_bar_19 : decode cX11_bar 19 = .ok (.aload_n 0, 1) := by decide +kernel
theorem dX11_bar_20 : decode cX11_bar 20 = .ok (.getfield 9, 3) := by decide +kernel
theorem dX11_bar_23 : decode cX11_bar 23 = .ok (.sipush 133, 3) := by decide +kernel
theorem dX11_bar_26 : decode cX11_bar 26 = .ok (.iload_n 1, 1) := by decide +kernel
theorem dX11_bar_27 : decode cX11_bar 27 = .ok (.iadd, 1) := by decide +kernel
theorem dX11_bar_28 : decode cX11_bar 28 = .ok (.iaload, 1) := by decide +kernel
theorem dX11_bar_29 : decode cX11_bar 29 = .ok (.istore_n 3, 1) := by decide +kernel
theorem dX11_bar_30 : decode cX11_bar 30 = .ok (.aload_n 0, 1) := by decide +kernel
theorem dX11_bar_31 : decode cX11_bar 31 = .ok (.getfield 9, 3) := by decide +kernel
theorem dX11_bar_34 : decode cX11_bar 34 = .ok (.sipush 133, 3) := by decide +kernel
theorem dX11_bar_37 : decode cX11_bar 37 = .ok (.iload_n 1, 1) := by decide +kernel
theorem dX11_bar_38 : decode cX11_bar 38 = .ok (.iadd, 1) := by decide +kernel
theorem dX11_bar_39 : decode cX11_bar 39 = .ok (.iload_n 2, 1) := by decide +kernel
theorem dX11_bar_40 : decode cX11_bar 40 = .ok (.ifCond .eq 7, 3) := by decide +kernel
theorem dX11_bar_43 : decode cX11_bar 43 = .ok (.iconst 1, 1) := by decide +kernel
theorem dX11_bar_44 : decode cX11_bar 44 = .ok (.goto 4, 3) := by decide +kernel
theorem dX11_bar_47 : decode cX11_bar 47 = .ok (.iconst 0, 1) := by decide +kernel
theorem dX11_bar_48 : decode cX11_bar 48 = .ok (.iastore, 1) := by decide +kernel
theorem dX11_bar_49 : decode cX11_bar 49 = .ok (.iload_n 3, 1) := by decide +kernel
theorem dX11_bar_50 : decode cX11_bar 50 = .ok (.ireturn, 1) := by decide +kernel
theorem dX11_shortWithout_0 : decode cX11_shortWithout 0 = .ok (.iconst 0, 1) := by decide +kernel
theorem dX11_shortWithout_1 : decode cX11_shortWithout 1 = .ok (.istore 4, 2) := by decide +kernel
theorem dX11_shortWithout_3 : decode cX11_shortWithout 3 = .ok (.iload 4, 2) := by decide +kernel
theorem dX11_shortWithout_5 : decode cX11_shortWithout 5 = .ok (.bipush 10, 2) := by decide +kernel
theorem dX11_shortWithout_7 : decode cX11_shortWithout 7 = .ok (.if_icmp .ge 28, 3) := by decide +kernel
theorem dX11_shortWithout_10 : decode cX11_shortWithout 10 = .ok (.aload_n 0, 1) := by decide +kernel
theorem dX11_shortWithout_11 : decode cX11_shortWithout 11 = .ok (.getfield 36, 3) := by decide +kernel
theorem dX11_shortWithout_14 : decode cX11_shortWithout 14 = .ok (.iload 4, 2) := by decide +kernel
theorem dX11_shortWithout_16 : decode cX11_shortWithout 16 = .ok (.iload 4, 2) := by decide +kernel
theorem dX11_shortWithout_18 : decode cX11_shortWithout 18 = .ok (.iload_n 1, 1) := by decide +kernel
theorem dX11_shortWithout_19 : decode cX11_shortWithout 19 = .ok (.if_icmp .ne 7, 3) := by decide +kernel
theorem dX11_shortWithout_22 : decode cX11_shortWithout 22 = .ok (.iconst 0, 1) := by decide +kernel
theorem dX11_shortWithout_23 : decode cX11_shortWithout 23 = .ok (.goto 5, 3) := by decide +kernel
theorem dX11_shortWithout_26 : decode cX11_shortWithout 26 = .ok (.ldc 141, 2) := by decide +kernel
theorem dX11_shortWithout_28 : decode cX11_shortWithout 28 = .ok (.iastore, 1) := by decide +kernel
theorem dX11_shortWithout_29 : decode cX11_shortWithout 29 = .ok (.iinc 4 1, 3) := by decide +kernel
theorem dX11_shortWithout_32 : decode cX11_shortWithout 32 = .ok (.goto (-29), 3) := by decide +kernel
theorem dX11_shortWithout_35 : decode cX11_shortWithout 35 = .ok (.iconst 1, 1) := by decide +kernel
theorem dX11_shortWithout_36 : decode cX11_shortWithout 36 = .ok (.istore 4, 2) := by decide +kernel
theorem dX11_shortWithout_38 : decode cX11_shortWithout 38 = .ok (.iload 4, 2) := by decide +kernel
theorem dX11_shortWithout_40 : decode cX11_shortWithout 40 = .ok (.ifCond .eq 120, 3) := by decide +kernel
theorem dX11_shortWithout_43 : decode cX11_shortWithout 43 = .ok (.iconst 0, 1) := by decide +kernel
theorem dX11_shortWithout_44 : decode cX11_shortWithout 44 = .ok (.istore 4, 2) := by decide +kernel
theorem dX11_shortWithout_46 : decode cX11_shortWithout 46 = .ok (.iconst 0, 1) := by decide +kernel
theorem dX11_shortWithout_47 : decode cX11_shortWithout 47 = .ok (.istore 5, 2) := by decide +kernel
theorem dX11_shortWithout_49 : decode cX11_shortWithout 49 = .ok (.iload 5, 2) := by decide +kernel
theorem dX11_shortWithout_51 : decode cX11_shortWithout 51 = .ok (.aload_n 0, 1) := by decide +kernel
theorem dX11_shortWithout_52 : decode cX11_shortWithout 52 = .ok (.getfield 9, 3) := by decide +kernel
theorem dX11_shortWithout_55 : decode cX11_shortWithout 55 = .ok (.iconst 2, 1) := by decide +kernel
theorem dX11_shortWithout_56 : decode cX11_shortWithout 56 = .ok (.iaload, 1) := by decide +kernel
theorem dX11_shortWithout_57 : decode cX11_shortWithout 57 = .ok (.if_icmp .ge 100, 3) := by decide +kernel
theorem dX11_shortWithout_60 : decode cX11_shortWithout 60 = .ok (.aload_n 0, 1) := by decide +kernel
theorem dX11_shortWithout_61 : decode cX11_shortWithout 61 = .ok (.getfield 36, 3) := by decide +kernel
theorem dX11_shortWithout_64 : decode cX11_shortWithout 64 = .ok (.aload_n 0, 1) := by decide +kernel
theorem dX11_shortWithout_65 : decode cX11_shortWithout 65 = .ok (.getfield 9, 3) := by decide +kernel
theorem dX11_shortWithout_68 : decode cX11_shortWithout 68 = .ok (.bipush 85, 2) := by decide +kernel
theorem dX11_shortWithout_70 : decode cX11_shortWithout 70 = .ok (.iload 5, 2) := by decide +kernel
theorem dX11_shortWithout_72 : decode cX11_shortWithout 72 = .ok (.iadd, 1) := by decide +kernel
theorem dX11_shortWithout_73 : decode cX11_shortWithout 73 = .ok (.iaload, 1) := by decide +kernel
theorem dX11_shortWithout_74 : decode cX11_shortWithout 74 = .ok (.iaload, 1) := by decide +kernel
theorem dX11_shortWithout_75 : decode cX11_shortWithout 75 = .ok (.aload_n 0, 1) := by decide +kernel
theorem dX11_shortWithout_76 : decode cX11_shortWithout 76 = .ok (.getfield 9, 3) := by decide +kernel
theorem dX11_shortWithout_79 : decode cX11_shortWithout 79 = .ok (.bipush 117, 2) := by decide +kernel
theorem dX11_shortWithout_81 : decode cX11_shortWithout 81 = .ok (.iload 5, 2) := by decide +kernel
theorem dX11_shortWithout_83 : decode cX11_shortWithout 83 = .ok (.iadd, 1) := by decide +kernel
theorem dX11_shortWithout_84 : decode cX11_shortWithout 84 = .ok (.iaload, 1) := by decide +kernel
theorem dX11_shortWithout_85 : decode cX11_shortWithout 85 = .ok (.iadd, 1) := by decide +kernel
theorem dX11_shortWithout_86 : decode cX11_shortWithout 86 = .ok (.istore 6, 2) := by decide +kernel
theorem dX11_shortWithout_88 : decode cX11_shortWithout 88 = .ok (.iload_n 3, 1) := by decide +kernel
theorem dX11_shortWithout_89 : decode cX11_shortWithout 89 = .ok (.iload 5, 2) := by decide +kernel
theorem dX11_shortWithout_91 : decode cX11_shortWithout 91 = .ok (.ishr, 1) := by decide +kernel
theorem dX11_shortWithout_92 : decode cX11_shortWithout 92 = .ok (.iconst 1, 1) := by decide +kernel
theorem dX11_shortWithout_93 : decode cX11_shortWithout 93 = .ok (.iand, 1) := by decide +kernel
theorem dX11_shortWithout_94 : decode cX11_shortWithout 94 = .ok (.ifCond .ne 57, 3) := by decide +kernel
theorem dX11_shortWithout_97 : decode cX11_shortWithout 97 = .ok (.aload_n 0, 1) := by decide +kernel
theorem dX11_shortWithout_98 : decode cX11_shortWithout 98 = .ok (.getfield 9, 3) := by decide +kernel
theorem dX11_shortWithout_101 : decode cX11_shortWithout 101 = .ok (.sipush 133, 3) := by decide +kernel
theorem dX11_shortWithout_104 : decode cX11_shortWithout 104 = .ok (.iload 5, 2) := by decide +kernel
theorem dX11_shortWithout_106 : decode cX11_shortWithout 106 = .ok (.iadd, 1) := by decide +kernel
theorem dX11_shortWithout_107 : decode cX11_shortWithout 107 = .ok (.iaload, 1) := by decide +kernel
theorem dX11_shortWithout_108 : decode cX11_shortWithout 108 = .ok (.ifCond .ne 43, 3) := by decide +kernel
theorem dX11_shortWithout_111 : decode cX11_shortWithout 111 = .ok (.iload 6, 2) := by decide +kernel
theorem dX11_shortWithout_113 : decode cX11_shortWithout 113 = .ok (.aload_n 0, 1) := by decide +kernel
theorem dX11_shortWithout_114 : decode cX11_shortWithout 114 = .ok (.getfield 36, 3) := by decide +kernel
theorem dX11_shortWithout_117 : decode cX11_shortWithout 117 = .ok (.aload_n 0, 1) := by decide +kernel
theorem dX11_shortWithout_118 : decode cX11_shortWithout 118 = .ok (.getfield 9, 3) := by decide +kernel
theorem dX11_shortWithout_121 : decode cX11_shortWithout 121 = .ok (.bipush 101, 2) := by decide +kernel
theorem dX11_shortWithout_123 : decode cX11_shortWithout 123 = .ok (.iload 5, 2) := by decide +kernel
theorem dX11_shortWithout_125 : decode cX11_shortWithout 125 = .ok (.iadd, 1) := by decide +kernel
theorem dX11_shortWithout_126 : decode cX11_shortWithout 126 = .ok (.iaload, 1) := by decide +kernel
theorem dX11_shortWithout_127 : decode cX11_shortWithout 127 = .ok (.iaload, 1) := by decide +kernel
theorem dX11_shortWithout_128 : decode cX11_shortWithout 128 = .ok (.if_icmp .ge 23, 3) := by decide +kernel
theorem dX11_shortWithout_131 : decode cX11_shortWithout 131 = .ok (.aload_n 0, 1) := by decide +kernel
theorem dX11_shortWithout_132 : decode cX11_shortWithout 132 = .ok (.getfield 36, 3) := by decide +kernel
theorem dX11_shortWithout_135 : decode cX11_shortWithout 135 = .ok (.aload_n 0, 1) := by decide +kernel
theorem dX11_shortWithout_136 : decode cX11_shortWithout 136 = .ok (.getfield 9, 3) := by decide +kernel
theorem dX11_shortWithout_139 : decode cX11_shortWithout 139 = .ok (.bipush 101, 2) := by decide +kernel
theorem dX11_shortWithout_141 : decode cX11_shortWithout 141 = .ok (.iload 5, 2) := by decide +kernel
theorem dX11_shortWithout_143 : decode cX11_shortWithout 143 = .ok (.iadd, 1) := by decide +kernel
theorem dX11_shortWithout_144 : decode cX11_shortWithout 144 = .ok (.iaload, 1) := by decide +kernel
theorem dX11_shortWithout_145 : decode cX11_shortWithout 145 = .ok (.iload 6, 2) := by decide +kernel
theorem dX11_shortWithout_147 : decode cX11_shortWithout 147 = .ok (.iastore, 1) := by decide +kernel
theorem dX11_shortWithout_148 : decode cX11_shortWithout 148 = .ok (.iconst 1, 1) := by decide +kernel
theorem dX11_shortWithout_149 : decode cX11_shortWithout 149 = .ok (.istore 4, 2) := by decide +kernel
theorem dX11_shortWithout_151 : decode cX11_shortWithout 151 = .ok (.iinc 5 1, 3) := by decide +kernel
theorem dX11_shortWithout_154 : decode cX11_shortWithout 154 = .ok (.goto (-105), 3) := by decide +kernel
theorem dX11_shortWithout_157 : decode cX11_shortWithout 157 = .ok (.goto (-119), 3) := by decide +kernel
theorem dX11_shortWithout_160 : decode cX11_shortWithout 160 = .ok (.aload_n 0, 1) := by decide +kernel
theorem dX11_shortWithout_161 : decode cX11_shortWithout 161 = .ok (.getfield 36, 3) := by decide +kernel
theorem dX11_shortWithout_164 : decode cX11_shortWithout 164 = .ok (.iload_n 2, 1) := by decide +kernel
theorem dX11_shortWithout_165 : decode cX11_shortWithout 165 = .ok (.iaload, 1) := by decide +kernel
theorem dX11_shortWithout_166 : decode cX11_shortWithout 166 = .ok (.ldc 141, 2) := by decide +kernel
theorem dX11_shortWithout_168 : decode cX11_shortWithout 168 = .ok (.invokestatic 142, 3) := by decide +kernel
theorem dX11_shortWithout_171 : decode cX11_shortWithout 171 = .ok (.ireturn, 1) := by decide +kernel
set_option maxRecDepth 20000 in
theorem ggX11_shortest_X11_isPlace : GoodIn wsX11_shortest wsX11_isPlace := goodIn_r _ [7, 8, 9, 6, 10] (by decide +kernel) (by decide +kernel)
set_option maxRecDepth 20000 in
theorem gX11_shortest_X11_isPlace : GoodIn wsX11_shortest (va_wsS RX11 138 yX11_isPlace wsX11_isPlace) := goodIn_app (goodIn_of _ (by decide +kernel)) ggX11_shortest_X11_isPlace
set_option maxRecDepth 20000 in
theorem ggX11_shortest_X11_shortWithout : GoodIn wsX11_shortest wsX11_shortWithout := goodIn_r _ [14, 15, 2, 16, 17, 18, 19, 20, 21, 22, 23, 24, 25, 26, 27, 28, 29, 30, 31, 32, 33, 34, 35, 36, 37, 38, 39] (by decide +kernel) (by decide +kernel)
set_option maxRecDepth 20000 in
theorem gX11_shortest_X11_shortWithout : GoodIn wsX11_shortest (wsV RX11 146 RX11 yX11_shortWithout wsX11_shortWithout) := goodIn_app (goodIn_of _ (by decide +kernel)) ggX11_shortest_X11_shortWithout
theorem dX11_shortest_0 : decode cX11_shortest 0 = .ok (.iload_n 1, 1) := by decide +kernel
theorem dX11_shortest_1 : decode cX11_shortest 1 = .ok (.invokestatic 138, 3) := by decide +kernel
theorem dX11_shortest_4 : decode cX11_shortest 4 = .ok (.ifCond .eq 10, 3) := by decide +kernel
theorem dX11_shortest_7 : decode cX11_shortest 7 = .ok (.iload_n 2, 1) := by decide +kernel
theorem dX11_shortest_8 : decode cX11_shortest 8 = .ok (.invokestatic 138, 3) := by decide +kernel
theorem dX11_shortest_11 : decode cX11_shortest 11 = .ok (.ifCond .ne 6, 3) := by decide +kernel
theorem dX11_shortest_14 : decode cX11_shortest 14 = .ok (.ldc 55, 2) := by decide +kernel
theorem dX11_shortest_16 : decode cX11_shortest 16 = .ok (.ireturn, 1) := by decide +kernel
theorem dX11_shortest_17 : decode cX11_shortest 17 = .ok (.aload_n 0, 1) := by decide +kernel
theorem dX11_shortest_18 : decode cX11_shortest 18 = .ok (.iload_n 1, 1) := by decide +kernel
theorem dX11_shortest_19 : decode cX11_shortest 19 = .ok (.iload_n 2, 1) := by decide +kernel
theorem dX11_shortest_20 : decode cX11_shortest 20 = .ok (.iconst 0, 1) := by decide +kernel
theorem dX11_shortest_21 : decode cX11_shortest 21 = .ok (.invokevirtual 146, 3) := by decide +kernel
theorem dX11_shortest_24 : decode cX11_shortest 24 = .ok (.istore_n 3, 1) := by decide +kernel
theorem dX11_shortest_25 : decode cX11_shortest 25 = .ok (.iload_n 3, 1) := by decide +kernel
theorem dX11_shortest_26 : decode cX11_shortest 26 = .ok (.ldc 141, 2) := by decide +kernel
theorem dX11_shortest_28 : decode cX11_shortest 28 = .ok (.if_icmp .ne 8, 3) := by decide +kernel
theorem dX11_shortest_31 : decode cX11_shortest 31 = .ok (.ldc 113, 2) := by decide +kernel
theorem dX11_shortest_33 : decode cX11_shortest 33 = .ok (.goto 4, 3) := by decide +kernel
theorem dX11_shortest_36 : decode cX11_shortest 36 = .ok (.iload_n 3, 1) := by decide +kernel
theorem dX11_shortest_37 : decode cX11_shortest 37 = .ok (.ireturn, 1) := by decide +kernel
theorem dX11_many_0 : decode cX11_many 0 = .ok (.iconst 0, 1) := by decide +kernel
theorem dX11_many_1 : decode cX11_many 1 = .ok (.istore_n 1, 1) := by decide +kernel
theorem dX11_many_2 : decode cX11_many 2 = .ok (.iconst 0, 1) := by decide +kernel
theorem dX11_many_3 : decode cX11_many 3 = .ok (.istore_n 2, 1) := by decide +kernel
theorem dX11_many_4 : decode cX11_many 4 = .ok (.iload_n 2, 1) := by decide +kernel
theorem dX11_many_5 : decode cX11_many 5 = .ok (.bipush 20, 2) := by decide +kernel
theorem dX11_many_7 : decode cX11_many 7 = .ok (.if_icmp .ge 17, 3) := by decide +kernel
theorem dX11_many_10 : decode cX11_many 10 = .ok (.iload_n 1, 1) := by decide +kernel
theorem dX11_many_11 : decode cX11_many 11 = .ok (.iload_n 0, 1) := by decide +kernel
theorem dX11_many_12 : decode cX11_many 12 = .ok (.iload_n 2, 1) := by decide +kernel
theorem dX11_many_13 : decode cX11_many 13 = .ok (.ishr, 1) := by decide +kernel
theorem dX11_many_14 : decode cX11_many 14 = .ok (.iconst 1, 1) := by decide +kernel
theorem dX11_many_15 : decode cX11_many 15 = .ok (.iand, 1) := by decide +kernel
theorem dX11_many_16 : decode cX11_many 16 = .ok (.iadd, 1) := by decide +kernel
theorem dX11_many_17 : decode cX11_many 17 = .ok (.istore_n 1, 1) := by decide +kernel
theorem dX11_many_18 : decode cX11_many 18 = .ok (.iinc 2 1, 3) := by decide +kernel
theorem dX11_many_21 : decode cX11_many 21 = .ok (.goto (-17), 3) := by decide +kernel
theorem dX11_many_24 : decode cX11_many 24 = .ok (.iload_n 1, 1) := by decide +kernel
theorem dX11_many_25 : decode cX11_many 25 = .ok (.ireturn, 1) := by decide +kernel
theorem dX11_isBarred_0 : decode cX11_isBarred 0 = .ok (.iconst 0, 1) := by decide +kernel
theorem dX11_isBarred_1 : decode cX11_isBarred 1 = .ok (.istore_n 2, 1) := by decide +kernel
theorem dX11_isBarred_2 : decode cX11_isBarred 2 = .ok (.iconst 0, 1) := by decide +kernel
theorem dX11_isBarred_3 : decode cX11_isBarred 3 = .ok (.istore_n 3, 1) := by decide +kernel
theorem dX11_isBarred_4 : decode cX11_isBarred 4 = .ok (.iload_n 3, 1) := by decide +kernel
theorem dX11_isBarred_5 : decode cX11_isBarred 5 = .ok (.aload_n 0, 1) := by decide +kernel
theorem dX11_isBarred_6 : decode cX11_isBarred 6 = .ok (.getfield 9, 3) := by decide +kernel
theorem dX11_isBarred_9 : decode cX11_isBarred 9 = .ok (.iconst 2, 1) := by decide +kernel
theorem dX11_isBarred_10 : decode cX11_isBarred 10 = .ok (.iaload, 1) := by decide +kernel
theorem dX11_isBarred_11 : decode cX11_isBarred 11 = .ok (.if_icmp .ge 42, 3) := by decide +kernel
theorem dX11_isBarred_14 : decode cX11_isBarred 14 = .ok (.iload_n 2, 1) := by decide +kernel
theorem dX11_isBarred_15 : decode cX11_isBarred 15 = .ok (.ifCond .ne 26, 3) := by decide +kernel
theorem dX11_isBarred_18 : decode cX11_isBarred 18 = .ok (.iload_n 1, 1) := by decide +kernel
theorem dX11_isBarred_19 : decode cX11_isBarred 19 = .ok (.iload_n 3, 1) := by decide +kernel
theorem dX11_isBarred_20 : decode cX11_isBarred 20 = .ok (.ishr, 1) := by decide +kernel
theorem dX11_isBarred_21 : decode cX11_isBarred 21 = .ok (.iconst 1, 1) := by decide +kernel
theorem dX11_isBarred_22 : decode cX11_isBarred 22 = .ok (.iand, 1) := by decide +kernel
theorem dX11_isBarred_23 : decode cX11_isBarred 23 = .ok (.iconst 1, 1) := by decide +kernel
theorem dX11_isBarred_24 : decode cX11_isBarred 24 = .ok (.if_icmp .ne 21, 3) := by decide +kernel
theorem dX11_isBarred_27 : decode cX11_isBarred 27 = .ok (.aload_n 0, 1) := by decide +kernel
theorem dX11_isBarred_28 : decode cX11_isBarred 28 = .ok (.getfield 9, 3) := by decide +kernel
theorem dX11_isBarred_31 : decode cX11_isBarred 31 = .ok (.sipush 133, 3) := by decide +kernel
theorem dX11_isBarred_34 : decode cX11_isBarred 34 = .ok (.iload_n 3, 1) := by decide +kernel
theorem dX11_isBarred_35 : decode cX11_isBarred 35 = .ok (.iadd, 1) := by decide +kernel
theorem dX11_isBarred_36 : decode cX11_isBarred 36 = .ok (.iaload, 1) := by decide +kernel
theorem dX11_isBarred_37 : decode cX11_isBarred 37 = .ok (.iconst 1, 1) := by decide +kernel
theorem dX11_isBarred_38 : decode cX11_isBarred 38 = .ok (.if_icmp .ne 7, 3) := by decide +kernel
theorem dX11_isBarred_41 : decode cX11_isBarred 41 = .ok (.iconst 1, 1) := by decide +kernel
theorem dX11_isBarred_42 : decode cX11_isBarred 42 = .ok (.goto 4, 3) := by decide +kernel
theorem dX11_isBarred_45 : decode cX11_isBarred 45 = .ok (.iconst 0, 1) := by decide +kernel
theorem dX11_isBarred_46 : decode cX11_isBarred 46 = .ok (.istore_n 2, 1) := by decide +kernel
theorem dX11_isBarred_47 : decode cX11_isBarred 47 = .ok (.iinc 3 1, 3) := by decide +kernel
theorem dX11_isBarred_50 : decode cX11_isBarred 50 = .ok (.goto (-46), 3) := by decide +kernel
theorem dX11_isBarred_53 : decode cX11_isBarred 53 = .ok (.iload_n 2, 1) := by decide +kernel
theorem dX11_isBarred_54 : decode cX11_isBarred 54 = .ok (.ireturn, 1) := by decide +kernel
set_option maxRecDepth 20000 in
theorem ggX11_bars_X11_isPlace : GoodIn wsX11_bars wsX11_isPlace := goodIn_r _ [6, 7, 8, 5, 9] (by decide +kernel) (by decide +kernel)
set_option maxRecDepth 20000 in
theorem gX11_bars_X11_isPlace : GoodIn wsX11_bars (va_wsS RX11 138 yX11_isPlace wsX11_isPlace) := goodIn_app (goodIn_of _ (by decide +kernel)) ggX11_bars_X11_isPlace
set_option maxRecDepth 20000 in
theorem ggX11_bars_X11_within : GoodIn wsX11_bars wsX11_within := goodIn_r _ [9] (by decide +kernel) (by decide +kernel)
set_option maxRecDepth 20000 in
theorem gX11_bars_X11_within : GoodIn wsX11_bars (va_wsS RX11 47 yX11_within wsX11_within) := goodIn_app (goodIn_of _ (by decide +kernel)) ggX11_bars_X11_within
set_option maxRecDepth 20000 in
theorem ggX11_bars_X11_shortWithout : GoodIn wsX11_bars wsX11_shortWithout := goodIn_r _ [13, 14, 15, 2, 16, 17, 18, 19, 27, 28, 29, 30, 31, 32, 33, 34, 35, 36, 37, 38, 39, 40, 41, 42, 43, 44, 45] (by decide +kernel) (by decide +kernel)
set_option maxRecDepth 20000 in
theorem gX11_bars_X11_shortWithout : GoodIn wsX11_bars (wsV RX11 146 RX11 yX11_shortWithout wsX11_shortWithout) := goodIn_app (goodIn_of _ (by decide +kernel)) ggX11_bars_X11_shortWithout
set_option maxRecDepth 20000 in
theorem ggX11_bars_X11_many : GoodIn wsX11_bars wsX11_many := goodIn_r _ [22] (by decide +kernel) (by decide +kernel)
set_option maxRecDepth 20000 in
theorem gX11_bars_X11_many : GoodIn wsX11_bars (va_wsS RX11 150 yX11_many wsX11_many) := goodIn_app (goodIn_of _ (by decide +kernel)) ggX11_bars_X11_many
set_option maxRecDepth 20000 in
theorem ggX11_bars_X11_isBarred : GoodIn wsX11_bars wsX11_isBarred := goodIn_r _ [26, 2, 27, 28, 29, 30, 31, 32, 33, 34, 35, 36, 37, 38, 39, 40, 41, 42, 43, 44, 45] (by decide +kernel) (by decide +kernel)
set_option maxRecDepth 20000 in
theorem gX11_bars_X11_isBarred : GoodIn wsX11_bars (wsV RX11 153 RX11 yX11_isBarred wsX11_isBarred) := goodIn_app (goodIn_of _ (by decide +kernel)) ggX11_bars_X11_isBarred
theorem dX11_bars_0 : decode cX11_bars 0 = .ok (.iload_n 1, 1) := by decide +kernel
theorem dX11_bars_1 : decode cX11_bars 1 = .ok (.invokestatic 138, 3) := by decide +kernel
theorem dX11_bars_4 : decode cX11_bars 4 = .ok (.ifCond .eq 19, 3) := by decide +kernel
theorem dX11_bars_7 : decode cX11_bars 7 = .ok (.iload_n 2, 1) := by decide +kernel
theorem dX11_bars_8 : decode cX11_bars 8 = .ok (.invokestatic 138, 3) := by decide +kernel
theorem dX11_bars_11 : decode cX11_bars 11 = .ok (.ifCond .eq 12, 3) := by decide +kernel
theorem dX11_bars_14 : decode cX11_bars 14 = .ok (.iload_n 3, 1) := by decide +kernel
theorem dX11_bars_15 : decode cX11_bars 15 = .ok (.iconst 0, 1) := by decide +kernel
theorem dX11_bars_16 : decode cX11_bars 16 = .ok (.iconst 4, 1) := by decide +kernel
theorem dX11_bars_17 : decode cX11_bars 17 = .ok (.invokestatic 47, 3) := by decide +kernel
theorem dX11_bars_20 : decode cX11_bars 20 = .ok (.ifCond .ne 6, 3) := by decide +kernel
theorem dX11_bars_23 : decode cX11_bars 23 = .ok (.ldc 55, 2) := by decide +kernel
theorem dX11_bars_25 : decode cX11_bars 25 = .ok (.ireturn, 1) := by decide +kernel
theorem dX11_bars_26 : decode cX11_bars 26 = .ok (.iconst 0, 1) := by decide +kernel
theorem dX11_bars_27 : decode cX11_bars 27 = .ok (.istore 4, 2) := by decide +kernel
theorem dX11_bars_29 : decode cX11_bars 29 = .ok (.aload_n 0, 1) := by decide +kernel
theorem dX11_bars_30 : decode cX11_bars 30 = .ok (.iload_n 1, 1) := by decide +kernel
theorem dX11_bars_31 : decode cX11_bars 31 = .ok (.iload_n 2, 1) := by decide +kernel
theorem dX11_bars_32 : decode cX11_bars 32 = .ok (.iconst 0, 1) := by decide +kernel
theorem dX11_bars_33 : decode cX11_bars 33 = .ok (.invokevirtual 146, 3) := by decide +kernel
theorem dX11_bars_36 : decode cX11_bars 36 = .ok (.istore 5, 2) := by decide +kernel
theorem dX11_bars_38 : decode cX11_bars 38 = .ok (.iconst 1, 1) := by decide +kernel
theorem dX11_bars_39 : decode cX11_bars 39 = .ok (.istore 6, 2) := by decide +kernel
theorem dX11_bars_41 : decode cX11_bars 41 = .ok (.iload 6, 2) := by decide +kernel
theorem dX11_bars_43 : decode cX11_bars 43 = .ok (.iload_n 3, 1) := by decide +kernel
theorem dX11_bars_44 : decode cX11_bars 44 = .ok (.if_icmp .gt 78, 3) := by decide +kernel
theorem dX11_bars_47 : decode cX11_bars 47 = .ok (.iconst 1, 1) := by decide +kernel
theorem dX11_bars_48 : decode cX11_bars 48 = .ok (.istore 7, 2) := by decide +kernel
theorem dX11_bars_50 : decode cX11_bars 50 = .ok (.iload 7, 2) := by decide +kernel
theorem dX11_bars_52 : decode cX11_bars 52 = .ok (.iconst 1, 1) := by decide +kernel
theorem dX11_bars_53 : decode cX11_bars 53 = .ok (.aload_n 0, 1) := by decide +kernel
theorem dX11_bars_54 : decode cX11_bars 54 = .ok (.getfield 9, 3) := by decide +kernel
theorem dX11_bars_57 : decode cX11_bars 57 = .ok (.iconst 2, 1) := by decide +kernel
theorem dX11_bars_58 : decode cX11_bars 58 = .ok (.iaload, 1) := by decide +kernel
theorem dX11_bars_59 : decode cX11_bars 59 = .ok (.ishl, 1) := by decide +kernel
theorem dX11_bars_60 : decode cX11_bars 60 = .ok (.if_icmp .ge 56, 3) := by decide +kernel
theorem dX11_bars_63 : decode cX11_bars 63 = .ok (.iload 7, 2) := by decide +kernel
theorem dX11_bars_65 : decode cX11_bars 65 = .ok (.invokestatic 150, 3) := by decide +kernel
theorem dX11_bars_68 : decode cX11_bars 68 = .ok (.iload 6, 2) := by decide +kernel
theorem dX11_bars_70 : decode cX11_bars 70 = .ok (.if_icmp .ne 40, 3) := by decide +kernel
theorem dX11_bars_73 : decode cX11_bars 73 = .ok (.aload_n 0, 1) := by decide +kernel
theorem dX11_bars_74 : decode cX11_bars 74 = .ok (.iload 7, 2) := by decide +kernel
theorem dX11_bars_76 : decode cX11_bars 76 = .ok (.invokevirtual 153, 3) := by decide +kernel
theorem dX11_bars_79 : decode cX11_bars 79 = .ok (.ifCond .eq 6, 3) := by decide +kernel
theorem dX11_bars_82 : decode cX11_bars 82 = .ok (.goto 28, 3) := by decide +kernel
theorem dX11_bars_85 : decode cX11_bars 85 = .ok (.aload_n 0, 1) := by decide +kernel
theorem dX11_bars_86 : decode cX11_bars 86 = .ok (.iload_n 1, 1) := by decide +kernel
theorem dX11_bars_87 : decode cX11_bars 87 = .ok (.iload_n 2, 1) := by decide +kernel
theorem dX11_bars_88 : decode cX11_bars 88 = .ok (.iload 7, 2) := by decide +kernel
theorem dX11_bars_90 : decode cX11_bars 90 = .ok (.invokevirtual 146, 3) := by decide +kernel
theorem dX11_bars_93 : decode cX11_bars 93 = .ok (.istore 8, 2) := by decide +kernel
theorem dX11_bars_95 : decode cX11_bars 95 = .ok (.iload 8, 2) := by decide +kernel
theorem dX11_bars_97 : decode cX11_bars 97 = .ok (.iload 5, 2) := by decide +kernel
theorem dX11_bars_99 : decode cX11_bars 99 = .ok (.if_icmp .le 11, 3) := by decide +kernel
theorem dX11_bars_102 : decode cX11_bars 102 = .ok (.iload 8, 2) := by decide +kernel
theorem dX11_bars_104 : decode cX11_bars 104 = .ok (.istore 5, 2) := by decide +kernel
theorem dX11_bars_106 : decode cX11_bars 106 = .ok (.iload 7, 2) := by decide +kernel
theorem dX11_bars_108 : decode cX11_bars 108 = .ok (.istore 4, 2) := by decide +kernel
theorem dX11_bars_110 : decode cX11_bars 110 = .ok (.iinc 7 1, 3) := by decide +kernel
theorem dX11_bars_113 : decode cX11_bars 113 = .ok (.goto (-63), 3) := by decide +kernel
theorem dX11_bars_116 : decode cX11_bars 116 = .ok (.iinc 6 1, 3) := by decide +kernel
theorem dX11_bars_119 : decode cX11_bars 119 = .ok (.goto (-78), 3) := by decide +kernel
theorem dX11_bars_122 : decode cX11_bars 122 = .ok (.iload 4, 2) := by decide +kernel
theorem dX11_bars_124 : decode cX11_bars 124 = .ok (.ireturn, 1) := by decide +kernel
set_option maxRecDepth 20000 in
theorem ggX11_post_X11_within : GoodIn wsX11_post wsX11_within := goodIn_r _ [6] (by decide +kernel) (by decide +kernel)
set_option maxRecDepth 20000 in
theorem gX11_post_X11_within : GoodIn wsX11_post (va_wsS RX11 47 yX11_within wsX11_within) := goodIn_app (goodIn_of _ (by decide +kernel)) ggX11_post_X11_within
theorem dX11_post_0 : decode cX11_post 0 = .ok (.aload_n 0, 1) := by decide +kernel
theorem dX11_post_1 : decode cX11_post 1 = .ok (.getfield 9, 3) := by decide +kernel
theorem dX11_post_4 : decode cX11_post 4 = .ok (.iconst 3, 1) := by decide +kernel
theorem dX11_post_5 : decode cX11_post 5 = .ok (.iaload, 1) := by decide +kernel
theorem dX11_post_6 : decode cX11_post 6 = .ok (.istore_n 2, 1) := by decide +kernel
theorem dX11_post_7 : decode cX11_post 7 = .ok (.iload_n 1, 1) := by decide +kernel
theorem dX11_post_8 : decode cX11_post 8 = .ok (.iconst 1, 1) := by decide +kernel
theorem dX11_post_9 : decode cX11_post 9 = .ok (.bipush 8, 2) := by decide +kernel
theorem dX11_post_11 : decode cX11_post 11 = .ok (.invokestatic 47, 3) := by decide +kernel
theorem dX11_post_14 : decode cX11_post 14 = .ok (.ifCond .eq 8, 3) := by decide +kernel
theorem dX11_post_17 : decode cX11_post 17 = .ok (.iload_n 2, 1) := by decide +kernel
theorem dX11_post_18 : decode cX11_post 18 = .ok (.iconst 5, 1) := by decide +kernel
theorem dX11_post_19 : decode cX11_post 19 = .ok (.if_icmp .ne 6, 3) := by decide +kernel
theorem dX11_post_22 : decode cX11_post 22 = .ok (.ldc 55, 2) := by decide +kernel
theorem dX11_post_24 : decode cX11_post 24 = .ok (.ireturn, 1) := by decide +kernel
theorem dX11_post_25 : decode cX11_post 25 = .ok (.aload_n 0, 1) := by decide +kernel
theorem dX11_post_26 : decode cX11_post 26 = .ok (.getfield 9, 3) := by decide +kernel
theorem dX11_post_29 : decode cX11_post 29 = .ok (.sipush 149, 3) := by decide +kernel
theorem dX11_post_32 : decode cX11_post 32 = .ok (.iload_n 2, 1) := by decide +kernel
theorem dX11_post_33 : decode cX11_post 33 = .ok (.iadd, 1) := by decide +kernel
theorem dX11_post_34 : decode cX11_post 34 = .ok (.iload_n 1, 1) := by decide +kernel
theorem dX11_post_35 : decode cX11_post 35 = .ok (.iastore, 1) := by decide +kernel
theorem dX11_post_36 : decode cX11_post 36 = .ok (.aload_n 0, 1) := by decide +kernel
theorem dX11_post_37 : decode cX11_post 37 = .ok (.getfield 9, 3) := by decide +kernel
theorem dX11_post_40 : decode cX11_post 40 = .ok (.iconst 3, 1) := by decide +kernel
theorem dX11_post_41 : decode cX11_post 41 = .ok (.dup2, 1) := by decide +kernel
theorem dX11_post_42 : decode cX11_post 42 = .ok (.iaload, 1) := by decide +kernel
theorem dX11_post_43 : decode cX11_post 43 = .ok (.iconst 1, 1) := by decide +kernel
theorem dX11_post_44 : decode cX11_post 44 = .ok (.iadd, 1) := by decide +kernel
theorem dX11_post_45 : decode cX11_post 45 = .ok (.iastore, 1) := by decide +kernel
theorem dX11_post_46 : decode cX11_post 46 = .ok (.iload_n 2, 1) := by decide +kernel
theorem dX11_post_47 : decode cX11_post 47 = .ok (.ireturn, 1) := by decide +kernel
set_option maxRecDepth 20000 in
theorem ggX11_every_X11_within : GoodIn wsX11_every wsX11_within := goodIn_r _ [6] (by decide +kernel) (by decide +kernel)
set_option maxRecDepth 20000 in
theorem gX11_every_X11_within : GoodIn wsX11_every (va_wsS RX11 47 yX11_within wsX11_within) := goodIn_app (goodIn_of _ (by decide +kernel)) ggX11_every_X11_within
theorem dX11_every_0 : decode cX11_every 0 = .ok (.iload_n 1, 1) := by decide +kernel
theorem dX11_every_1 : decode cX11_every 1 = .ok (.iconst 0, 1) := by decide +kernel
theorem dX11_every_2 : decode cX11_every 2 = .ok (.aload_n 0, 1) := by decide +kernel
theorem dX11_every_3 : decode cX11_every 3 = .ok (.getfield 9, 3) := by decide +kernel
theorem dX11_every_6 : decode cX11_every 6 = .ok (.iconst 3, 1) := by decide +kernel
theorem dX11_every_7 : decode cX11_every 7 = .ok (.iaload, 1) := by decide +kernel
theorem dX11_every_8 : decode cX11_every 8 = .ok (.iconst 1, 1) := by decide +kernel
theorem dX11_every_9 : decode cX11_every 9 = .ok (.isub, 1) := by decide +kernel
theorem dX11_every_10 : decode cX11_every 10 = .ok (.invokestatic 47, 3) := by decide +kernel
theorem dX11_every_13 : decode cX11_every 13 = .ok (.ifCond .eq 13, 3) := by decide +kernel
theorem dX11_every_16 : decode cX11_every 16 = .ok (.iload_n 2, 1) := by decide +kernel
theorem dX11_every_17 : decode cX11_every 17 = .ok (.iconst 1, 1) := by decide +kernel
theorem dX11_every_18 : decode cX11_every 18 = .ok (.bipush 8, 2) := by decide +kernel
theorem dX11_every_20 : decode cX11_every 20 = .ok (.invokestatic 47, 3) := by decide +kernel
theorem dX11_every_23 : decode cX11_every 23 = .ok (.ifCond .ne 6, 3) := by decide +kernel
theorem dX11_every_26 : decode cX11_every 26 = .ok (.ldc 55, 2) := by decide +kernel
theorem dX11_every_28 : decode cX11_every 28 = .ok (.ireturn, 1) := by decide +kernel
theorem dX11_every_29 : decode cX11_every 29 = .ok (.aload_n 0, 1) := by decide +kernel
theorem dX11_every_30 : decode cX11_every 30 = .ok (.getfield 9, 3) := by decide +kernel
theorem dX11_every_33 : decode cX11_every 33 = .ok (.sipush 149, 3) := by decide +kernel
theorem dX11_every_36 : decode cX11_every 36 = .ok (.iload_n 1, 1) := by decide +kernel
theorem dX11_every_37 : decode cX11_every 37 = .ok (.iadd, 1) := by decide +kernel
theorem dX11_every_38 : decode cX11_every 38 = .ok (.iaload, 1) := by decide +kernel
theorem dX11_every_39 : decode cX11_every 39 = .ok (.istore_n 3, 1) := by decide +kernel
theorem dX11_every_40 : decode cX11_every 40 = .ok (.aload_n 0, 1) := by decide +kernel
theorem dX11_every_41 : decode cX11_every 41 = .ok (.getfield 9, 3) := by decide +kernel
theorem dX11_every_44 : decode cX11_every 44 = .ok (.sipush 149, 3) := by decide +kernel
theorem dX11_every_47 : decode cX11_every 47 = .ok (.iload_n 1, 1) := by decide +kernel
theorem dX11_every_48 : decode cX11_every 48 = .ok (.iadd, 1) := by decide +kernel
theorem dX11_every_49 : decode cX11_every 49 = .ok (.iload_n 2, 1) := by decide +kernel
theorem dX11_every_50 : decode cX11_every 50 = .ok (.iastore, 1) := by decide +kernel
theorem dX11_every_51 : decode cX11_every 51 = .ok (.iload_n 3, 1) := by decide +kernel
theorem dX11_every_52 : decode cX11_every 52 = .ok (.ireturn, 1) := by decide +kernel
theorem dX11_behind_0 : decode cX11_behind 0 = .ok (.iconst 0, 1) := by decide +kernel
theorem dX11_behind_1 : decode cX11_behind 1 = .ok (.istore_n 3, 1) := by decide +kernel
theorem dX11_behind_2 : decode cX11_behind 2 = .ok (.aload_n 0, 1) := by decide +kernel
theorem dX11_behind_3 : decode cX11_behind 3 = .ok (.getfield 9, 3) := by decide +kernel
theorem dX11_behind_6 : decode cX11_behind 6 = .ok (.iconst 3, 1) := by decide +kernel
theorem dX11_behind_7 : decode cX11_behind 7 = .ok (.iaload, 1) := by decide +kernel
theorem dX11_behind_8 : decode cX11_behind 8 = .ok (.iconst 1, 1) := by decide +kernel
theorem dX11_behind_9 : decode cX11_behind 9 = .ok (.isub, 1) := by decide +kernel
theorem dX11_behind_10 : decode cX11_behind 10 = .ok (.istore 4, 2) := by decide +kernel
theorem dX11_behind_12 : decode cX11_behind 12 = .ok (.iload 4, 2) := by decide +kernel
theorem dX11_behind_14 : decode cX11_behind 14 = .ok (.ifCond .lt 65, 3) := by decide +kernel
theorem dX11_behind_17 : decode cX11_behind 17 = .ok (.iload_n 1, 1) := by decide +kernel
theorem dX11_behind_18 : decode cX11_behind 18 = .ok (.iconst 3, 1) := by decide +kernel
theorem dX11_behind_19 : decode cX11_behind 19 = .ok (.iload 4, 2) := by decide +kernel
theorem dX11_behind_21 : decode cX11_behind 21 = .ok (.imul, 1) := by decide +kernel
theorem dX11_behind_22 : decode cX11_behind 22 = .ok (.ishr, 1) := by decide +kernel
theorem dX11_behind_23 : decode cX11_behind 23 = .ok (.bipush 7, 2) := by decide +kernel
theorem dX11_behind_25 : decode cX11_behind 25 = .ok (.iand, 1) := by decide +kernel
theorem dX11_behind_26 : decode cX11_behind 26 = .ok (.istore 5, 2) := by decide +kernel
theorem dX11_behind_28 : decode cX11_behind 28 = .ok (.iload 4, 2) := by decide +kernel
theorem dX11_behind_30 : decode cX11_behind 30 = .ok (.iload_n 2, 1) := by decide +kernel
theorem dX11_behind_31 : decode cX11_behind 31 = .ok (.if_icmp .eq 10, 3) := by decide +kernel
theorem dX11_behind_34 : decode cX11_behind 34 = .ok (.iload 5, 2) := by decide +kernel
theorem dX11_behind_36 : decode cX11_behind 36 = .ok (.ifCond .ne 5, 3) := by decide +kernel
theorem dX11_behind_39 : decode cX11_behind 39 = .ok (.iconst (-1), 1) := by decide +kernel
theorem dX11_behind_40 : decode cX11_behind 40 = .ok (.ireturn, 1) := by decide +kernel
theorem dX11_behind_41 : decode cX11_behind 41 = .ok (.bipush 8, 2) := by decide +kernel
theorem dX11_behind_43 : decode cX11_behind 43 = .ok (.iload_n 3, 1) := by decide +kernel
theorem dX11_behind_44 : decode cX11_behind 44 = .ok (.imul, 1) := by decide +kernel
theorem dX11_behind_45 : decode cX11_behind 45 = .ok (.iload 4, 2) := by decide +kernel
theorem dX11_behind_47 : decode cX11_behind 47 = .ok (.iload_n 2, 1) := by decide +kernel
theorem dX11_behind_48 : decode cX11_behind 48 = .ok (.if_icmp .ne 19, 3) := by decide +kernel
theorem dX11_behind_51 : decode cX11_behind 51 = .ok (.aload_n 0, 1) := by decide +kernel
theorem dX11_behind_52 : decode cX11_behind 52 = .ok (.getfield 9, 3) := by decide +kernel
theorem dX11_behind_55 : decode cX11_behind 55 = .ok (.sipush 149, 3) := by decide +kernel
theorem dX11_behind_58 : decode cX11_behind 58 = .ok (.iload 4, 2) := by decide +kernel
theorem dX11_behind_60 : decode cX11_behind 60 = .ok (.iadd, 1) := by decide +kernel
theorem dX11_behind_61 : decode cX11_behind 61 = .ok (.iaload, 1) := by decide +kernel
theorem dX11_behind_62 : decode cX11_behind 62 = .ok (.iconst 1, 1) := by decide +kernel
theorem dX11_behind_63 : decode cX11_behind 63 = .ok (.isub, 1) := by decide +kernel
theorem dX11_behind_64 : decode cX11_behind 64 = .ok (.goto 7, 3) := by decide +kernel
theorem dX11_behind_67 : decode cX11_behind 67 = .ok (.iload 5, 2) := by decide +kernel
theorem dX11_behind_69 : decode cX11_behind 69 = .ok (.iconst 1, 1) := by decide +kernel
theorem dX11_behind_70 : decode cX11_behind 70 = .ok (.isub, 1) := by decide +kernel
theorem dX11_behind_71 : decode cX11_behind 71 = .ok (.iadd, 1) := by decide +kernel
theorem dX11_behind_72 : decode cX11_behind 72 = .ok (.istore_n 3, 1) := by decide +kernel
theorem dX11_behind_73 : decode cX11_behind 73 = .ok (.iinc 4 (-1), 3) := by decide +kernel
theorem dX11_behind_76 : decode cX11_behind 76 = .ok (.goto (-64), 3) := by decide +kernel
theorem dX11_behind_79 : decode cX11_behind 79 = .ok (.iload_n 3, 1) := by decide +kernel
theorem dX11_behind_80 : decode cX11_behind 80 = .ok (.ireturn, 1) := by decide +kernel
set_option maxRecDepth 20000 in
theorem ggX11_goesOn_X11_behind : GoodIn wsX11_goesOn wsX11_behind := goodIn_r _ [7, 1, 8, 9, 10, 11, 12, 13, 14, 15, 16, 17, 18, 19, 20, 21, 22, 23, 24, 25, 26] (by decide +kernel) (by decide +kernel)
set_option maxRecDepth 20000 in
theorem gX11_goesOn_X11_behind : GoodIn wsX11_goesOn (wsV RX11 156 RX11 yX11_behind wsX11_behind) := goodIn_app (goodIn_of _ (by decide +kernel)) ggX11_goesOn_X11_behind
theorem dX11_goesOn_0 : decode cX11_goesOn 0 = .ok (.iconst 0, 1) := by decide +kernel
theorem dX11_goesOn_1 : decode cX11_goesOn 1 = .ok (.istore_n 2, 1) := by decide +kernel
theorem dX11_goesOn_2 : decode cX11_goesOn 2 = .ok (.iload_n 2, 1) := by decide +kernel
theorem dX11_goesOn_3 : decode cX11_goesOn 3 = .ok (.aload_n 0, 1) := by decide +kernel
theorem dX11_goesOn_4 : decode cX11_goesOn 4 = .ok (.getfield 9, 3) := by decide +kernel
theorem dX11_goesOn_7 : decode cX11_goesOn 7 = .ok (.iconst 3, 1) := by decide +kernel
theorem dX11_goesOn_8 : decode cX11_goesOn 8 = .ok (.iaload, 1) := by decide +kernel
theorem dX11_goesOn_9 : decode cX11_goesOn 9 = .ok (.if_icmp .ge 31, 3) := by decide +kernel
theorem dX11_goesOn_12 : decode cX11_goesOn 12 = .ok (.aload_n 0, 1) := by decide +kernel
theorem dX11_goesOn_13 : decode cX11_goesOn 13 = .ok (.iload_n 1, 1) := by decide +kernel
theorem dX11_goesOn_14 : decode cX11_goesOn 14 = .ok (.iload_n 2, 1) := by decide +kernel
theorem dX11_goesOn_15 : decode cX11_goesOn 15 = .ok (.invokevirtual 156, 3) := by decide +kernel
theorem dX11_goesOn_18 : decode cX11_goesOn 18 = .ok (.istore_n 3, 1) := by decide +kernel
theorem dX11_goesOn_19 : decode cX11_goesOn 19 = .ok (.iload_n 3, 1) := by decide +kernel
theorem dX11_goesOn_20 : decode cX11_goesOn 20 = .ok (.ifCond .lt 14, 3) := by decide +kernel
theorem dX11_goesOn_23 : decode cX11_goesOn 23 = .ok (.aload_n 0, 1) := by decide +kernel
theorem dX11_goesOn_24 : decode cX11_goesOn 24 = .ok (.getfield 40, 3) := by decide +kernel
theorem dX11_goesOn_27 : decode cX11_goesOn 27 = .ok (.iload_n 3, 1) := by decide +kernel
theorem dX11_goesOn_28 : decode cX11_goesOn 28 = .ok (.baload, 1) := by decide +kernel
theorem dX11_goesOn_29 : decode cX11_goesOn 29 = .ok (.ifCond .ne 5, 3) := by decide +kernel
theorem dX11_goesOn_32 : decode cX11_goesOn 32 = .ok (.iload_n 2, 1) := by decide +kernel
theorem dX11_goesOn_33 : decode cX11_goesOn 33 = .ok (.ireturn, 1) := by decide +kernel
theorem dX11_goesOn_34 : decode cX11_goesOn 34 = .ok (.iinc 2 1, 3) := by decide +kernel
theorem dX11_goesOn_37 : decode cX11_goesOn 37 = .ok (.goto (-35), 3) := by decide +kernel
theorem dX11_goesOn_40 : decode cX11_goesOn 40 = .ok (.iconst (-1), 1) := by decide +kernel
theorem dX11_goesOn_41 : decode cX11_goesOn 41 = .ok (.ireturn, 1) := by decide +kernel
theorem dX11_isState_0 : decode cX11_isState 0 = .ok (.iconst 1, 1) := by decide +kernel
theorem dX11_isState_1 : decode cX11_isState 1 = .ok (.istore_n 2, 1) := by decide +kernel
theorem dX11_isState_2 : decode cX11_isState 2 = .ok (.iconst 0, 1) := by decide +kernel
theorem dX11_isState_3 : decode cX11_isState 3 = .ok (.istore_n 3, 1) := by decide +kernel
theorem dX11_isState_4 : decode cX11_isState 4 = .ok (.iload_n 3, 1) := by decide +kernel
theorem dX11_isState_5 : decode cX11_isState 5 = .ok (.aload_n 0, 1) := by decide +kernel
theorem dX11_isState_6 : decode cX11_isState 6 = .ok (.getfield 9, 3) := by decide +kernel
theorem dX11_isState_9 : decode cX11_isState 9 = .ok (.iconst 3, 1) := by decide +kernel
theorem dX11_isState_10 : decode cX11_isState 10 = .ok (.iaload, 1) := by decide +kernel
theorem dX11_isState_11 : decode cX11_isState 11 = .ok (.if_icmp .ge 40, 3) := by decide +kernel
theorem dX11_isState_14 : decode cX11_isState 14 = .ok (.iload_n 2, 1) := by decide +kernel
theorem dX11_isState_15 : decode cX11_isState 15 = .ok (.ifCond .eq 28, 3) := by decide +kernel
theorem dX11_isState_18 : decode cX11_isState 18 = .ok (.iload_n 1, 1) := by decide +kernel
theorem dX11_isState_19 : decode cX11_isState 19 = .ok (.iconst 3, 1) := by decide +kernel
theorem dX11_isState_20 : decode cX11_isState 20 = .ok (.iload_n 3, 1) := by decide +kernel
theorem dX11_isState_21 : decode cX11_isState 21 = .ok (.imul, 1) := by decide +kernel
theorem dX11_isState_22 : decode cX11_isState 22 = .ok (.ishr, 1) := by decide +kernel
theorem dX11_isState_23 : decode cX11_isState 23 = .ok (.bipush 7, 2) := by decide +kernel
theorem dX11_isState_25 : decode cX11_isState 25 = .ok (.iand, 1) := by decide +kernel
theorem dX11_isState_26 : decode cX11_isState 26 = .ok (.aload_n 0, 1) := by decide +kernel
theorem dX11_isState_27 : decode cX11_isState 27 = .ok (.getfield 9, 3) := by decide +kernel
theorem dX11_isState_30 : decode cX11_isState 30 = .ok (.sipush 149, 3) := by decide +kernel
theorem dX11_isState_33 : decode cX11_isState 33 = .ok (.iload_n 3, 1) := by decide +kernel
theorem dX11_isState_34 : decode cX11_isState 34 = .ok (.iadd, 1) := by decide +kernel
theorem dX11_isState_35 : decode cX11_isState 35 = .ok (.iaload, 1) := by decide +kernel
theorem dX11_isState_36 : decode cX11_isState 36 = .ok (.if_icmp .ge 7, 3) := by decide +kernel
theorem dX11_isState_39 : decode cX11_isState 39 = .ok (.iconst 1, 1) := by decide +kernel
theorem dX11_isState_40 : decode cX11_isState 40 = .ok (.goto 4, 3) := by decide +kernel
theorem dX11_isState_43 : decode cX11_isState 43 = .ok (.iconst 0, 1) := by decide +kernel
theorem dX11_isState_44 : decode cX11_isState 44 = .ok (.istore_n 2, 1) := by decide +kernel
theorem dX11_isState_45 : decode cX11_isState 45 = .ok (.iinc 3 1, 3) := by decide +kernel
theorem dX11_isState_48 : decode cX11_isState 48 = .ok (.goto (-44), 3) := by decide +kernel
theorem dX11_isState_51 : decode cX11_isState 51 = .ok (.iload_n 2, 1) := by decide +kernel
theorem dX11_isState_52 : decode cX11_isState 52 = .ok (.ireturn, 1) := by decide +kernel
set_option maxRecDepth 20000 in
theorem ggX11_strike_X11_isState : GoodIn wsX11_strike wsX11_isState := goodIn_r _ [7, 1, 16, 17, 18, 19, 20, 21, 22, 23, 24, 25, 26, 27, 28, 29, 30, 31, 32, 33, 34] (by decide +kernel) (by decide +kernel)
set_option maxRecDepth 20000 in
theorem gX11_strike_X11_isState : GoodIn wsX11_strike (wsV RX11 159 RX11 yX11_isState wsX11_isState) := goodIn_app (goodIn_of _ (by decide +kernel)) ggX11_strike_X11_isState
set_option maxRecDepth 20000 in
theorem ggX11_strike_X11_goesOn : GoodIn wsX11_strike wsX11_goesOn := goodIn_r _ [11, 1, 2, 12, 13, 14, 6, 15, 16, 17, 18, 19, 20, 21, 22, 23, 24, 25, 26, 27, 28, 29, 30, 31, 32, 33, 34] (by decide +kernel) (by decide +kernel)
set_option maxRecDepth 20000 in
theorem gX11_strike_X11_goesOn : GoodIn wsX11_strike (wsV RX11 162 RX11 yX11_goesOn wsX11_goesOn) := goodIn_app (goodIn_of _ (by decide +kernel)) ggX11_strike_X11_goesOn
theorem dX11_strike_0 : decode cX11_strike 0 = .ok (.iconst 1, 1) := by decide +kernel
theorem dX11_strike_1 : decode cX11_strike 1 = .ok (.iconst 3, 1) := by decide +kernel
theorem dX11_strike_2 : decode cX11_strike 2 = .ok (.aload_n 0, 1) := by decide +kernel
theorem dX11_strike_3 : decode cX11_strike 3 = .ok (.getfield 9, 3) := by decide +kernel
theorem dX11_strike_6 : decode cX11_strike 6 = .ok (.iconst 3, 1) := by decide +kernel
theorem dX11_strike_7 : decode cX11_strike 7 = .ok (.iaload, 1) := by decide +kernel
theorem dX11_strike_8 : decode cX11_strike 8 = .ok (.imul, 1) := by decide +kernel
theorem dX11_strike_9 : decode cX11_strike 9 = .ok (.ishl, 1) := by decide +kernel
theorem dX11_strike_10 : decode cX11_strike 10 = .ok (.istore_n 1, 1) := by decide +kernel
theorem dX11_strike_11 : decode cX11_strike 11 = .ok (.iconst 0, 1) := by decide +kernel
theorem dX11_strike_12 : decode cX11_strike 12 = .ok (.istore_n 2, 1) := by decide +kernel
theorem dX11_strike_13 : decode cX11_strike 13 = .ok (.iload_n 2, 1) := by decide +kernel
theorem dX11_strike_14 : decode cX11_strike 14 = .ok (.iload_n 1, 1) := by decide +kernel
theorem dX11_strike_15 : decode cX11_strike 15 = .ok (.if_icmp .ge 28, 3) := by decide +kernel
theorem dX11_strike_18 : decode cX11_strike 18 = .ok (.aload_n 0, 1) := by decide +kernel
theorem dX11_strike_19 : decode cX11_strike 19 = .ok (.getfield 40, 3) := by decide +kernel
theorem dX11_strike_22 : decode cX11_strike 22 = .ok (.iload_n 2, 1) := by decide +kernel
theorem dX11_strike_23 : decode cX11_strike 23 = .ok (.aload_n 0, 1) := by decide +kernel
theorem dX11_strike_24 : decode cX11_strike 24 = .ok (.iload_n 2, 1) := by decide +kernel
theorem dX11_strike_25 : decode cX11_strike 25 = .ok (.invokevirtual 159, 3) := by decide +kernel
theorem dX11_strike_28 : decode cX11_strike 28 = .ok (.ifCond .ne 7, 3) := by decide +kernel
theorem dX11_strike_31 : decode cX11_strike 31 = .ok (.iconst 1, 1) := by decide +kernel
theorem dX11_strike_32 : decode cX11_strike 32 = .ok (.goto 4, 3) := by decide +kernel
theorem dX11_strike_35 : decode cX11_strike 35 = .ok (.iconst 0, 1) := by decide +kernel
theorem dX11_strike_36 : decode cX11_strike 36 = .ok (.bastore, 1) := by decide +kernel
theorem dX11_strike_37 : decode cX11_strike 37 = .ok (.iinc 2 1, 3) := by decide +kernel
theorem dX11_strike_40 : decode cX11_strike 40 = .ok (.goto (-27), 3) := by decide +kernel
theorem dX11_strike_43 : decode cX11_strike 43 = .ok (.iconst 1, 1) := by decide +kernel
theorem dX11_strike_44 : decode cX11_strike 44 = .ok (.istore_n 2, 1) := by decide +kernel
theorem dX11_strike_45 : decode cX11_strike 45 = .ok (.iload_n 2, 1) := by decide +kernel
theorem dX11_strike_46 : decode cX11_strike 46 = .ok (.ifCond .eq 47, 3) := by decide +kernel
theorem dX11_strike_49 : decode cX11_strike 49 = .ok (.iconst 0, 1) := by decide +kernel
theorem dX11_strike_50 : decode cX11_strike 50 = .ok (.istore_n 2, 1) := by decide +kernel
theorem dX11_strike_51 : decode cX11_strike 51 = .ok (.iconst 0, 1) := by decide +kernel
theorem dX11_strike_52 : decode cX11_strike 52 = .ok (.istore_n 3, 1) := by decide +kernel
theorem dX11_strike_53 : decode cX11_strike 53 = .ok (.iload_n 3, 1) := by decide +kernel
theorem dX11_strike_54 : decode cX11_strike 54 = .ok (.iload_n 1, 1) := by decide +kernel
theorem dX11_strike_55 : decode cX11_strike 55 = .ok (.if_icmp .ge 35, 3) := by decide +kernel
theorem dX11_strike_58 : decode cX11_strike 58 = .ok (.aload_n 0, 1) := by decide +kernel
theorem dX11_strike_59 : decode cX11_strike 59 = .ok (.getfield 40, 3) := by decide +kernel
theorem dX11_strike_62 : decode cX11_strike 62 = .ok (.iload_n 3, 1) := by decide +kernel
theorem dX11_strike_63 : decode cX11_strike 63 = .ok (.baload, 1) := by decide +kernel
theorem dX11_strike_64 : decode cX11_strike 64 = .ok (.ifCond .ne 20, 3) := by decide +kernel
theorem dX11_strike_67 : decode cX11_strike 67 = .ok (.aload_n 0, 1) := by decide +kernel
theorem dX11_strike_68 : decode cX11_strike 68 = .ok (.iload_n 3, 1) := by decide +kernel
theorem dX11_strike_69 : decode cX11_strike 69 = .ok (.invokevirtual 162, 3) := by decide +kernel
theorem dX11_strike_72 : decode cX11_strike 72 = .ok (.ifCond .ge 12, 3) := by decide +kernel
theorem dX11_strike_75 : decode cX11_strike 75 = .ok (.aload_n 0, 1) := by decide +kernel
theorem dX11_strike_76 : decode cX11_strike 76 = .ok (.getfield 40, 3) := by decide +kernel
theorem dX11_strike_79 : decode cX11_strike 79 = .ok (.iload_n 3, 1) := by decide +kernel
theorem dX11_strike_80 : decode cX11_strike 80 = .ok (.iconst 1, 1) := by decide +kernel
theorem dX11_strike_81 : decode cX11_strike 81 = .ok (.bastore, 1) := by decide +kernel
theorem dX11_strike_82 : decode cX11_strike 82 = .ok (.iconst 1, 1) := by decide +kernel
theorem dX11_strike_83 : decode cX11_strike 83 = .ok (.istore_n 2, 1) := by decide +kernel
theorem dX11_strike_84 : decode cX11_strike 84 = .ok (.iinc 3 1, 3) := by decide +kernel
theorem dX11_strike_87 : decode cX11_strike 87 = .ok (.goto (-34), 3) := by decide +kernel
theorem dX11_strike_90 : decode cX11_strike 90 = .ok (.goto (-45), 3) := by decide +kernel
theorem dX11_strike_93 : decode cX11_strike 93 = .ok (.return_, 1) := by decide +kernel
set_option maxRecDepth 20000 in
theorem ggX11_visit_X11_within : GoodIn wsX11_visit wsX11_within := goodIn_r _ [9] (by decide +kernel) (by decide +kernel)
set_option maxRecDepth 20000 in
theorem gX11_visit_X11_within : GoodIn wsX11_visit (va_wsS RX11 47 yX11_within wsX11_within) := goodIn_app (goodIn_of _ (by decide +kernel)) ggX11_visit_X11_within
set_option maxRecDepth 20000 in
theorem ggX11_visit_X11_found : GoodIn wsX11_visit wsX11_found := goodIn_r _ [13, 14, 31, 32, 33, 34, 35, 36, 37, 38, 39, 40, 41, 42, 43, 44, 45, 46, 47, 48, 49] (by decide +kernel) (by decide +kernel)
set_option maxRecDepth 20000 in
theorem gX11_visit_X11_found : GoodIn wsX11_visit (wsV RX11 60 RX11 yX11_found wsX11_found) := goodIn_app (goodIn_of _ (by decide +kernel)) ggX11_visit_X11_found
set_option maxRecDepth 20000 in
theorem ggX11_visit_X11_strike : GoodIn wsX11_visit wsX11_strike := goodIn_r _ [18, 2, 4, 19, 20, 21, 8, 22, 23, 24, 25, 26, 27, 28, 29, 30, 31, 32, 33, 34, 35, 36, 37, 38, 39, 40, 41, 42, 43, 44, 45, 46, 47, 48, 49] (by decide +kernel) (by decide +kernel)
set_option maxRecDepth 20000 in
theorem gX11_visit_X11_strike : GoodIn wsX11_visit (wsV RX11 165 RX11 yX11_strike wsX11_strike) := goodIn_app (goodIn_of _ (by decide +kernel)) ggX11_visit_X11_strike
set_option maxRecDepth 20000 in
theorem ggX11_visit_X11_goesOn : GoodIn wsX11_visit wsX11_goesOn := goodIn_r _ [26, 2, 4, 27, 28, 29, 8, 30, 31, 32, 33, 34, 35, 36, 37, 38, 39, 40, 41, 42, 43, 44, 45, 46, 47, 48, 49] (by decide +kernel) (by decide +kernel)
set_option maxRecDepth 20000 in
theorem gX11_visit_X11_goesOn : GoodIn wsX11_visit (wsV RX11 162 RX11 yX11_goesOn wsX11_goesOn) := goodIn_app (goodIn_of _ (by decide +kernel)) ggX11_visit_X11_goesOn
set_option maxRecDepth 20000 in
theorem ggX11_visit_X11_behind : GoodIn wsX11_visit wsX11_behind := goodIn_r _ [30, 2, 31, 32, 33, 34, 35, 36, 37, 38, 39, 40, 41, 42, 43, 44, 45, 46, 47, 48, 49] (by decide +kernel) (by decide +kernel)
set_option maxRecDepth 20000 in
theorem gX11_visit_X11_behind : GoodIn wsX11_visit (wsV RX11 156 RX11 yX11_behind wsX11_behind) := goodIn_app (goodIn_of _ (by decide +kernel)) ggX11_visit_X11_behind
theorem dX11_visit_0 : decode cX11_visit 0 = .ok (.iload_n 1, 1) := by decide +kernel
theorem dX11_visit_1 : decode cX11_visit 1 = .ok (.iconst 0, 1) := by decide +kernel
theorem dX11_visit_2 : decode cX11_visit 2 = .ok (.sipush 1000, 3) := by decide +kernel
theorem dX11_visit_5 : decode cX11_visit 5 = .ok (.invokestatic 47, 3) := by decide +kernel
theorem dX11_visit_8 : decode cX11_visit 8 = .ok (.ifCond .ne 6, 3) := by decide +kernel
theorem dX11_visit_11 : decode cX11_visit 11 = .ok (.ldc 55, 2) := by decide +kernel
theorem dX11_visit_13 : decode cX11_visit 13 = .ok (.ireturn, 1) := by decide +kernel
theorem dX11_visit_14 : decode cX11_visit 14 = .ok (.aload_n 0, 1) := by decide +kernel
theorem dX11_visit_15 : decode cX11_visit 15 = .ok (.getfield 9, 3) := by decide +kernel
theorem dX11_visit_18 : decode cX11_visit 18 = .ok (.iconst 3, 1) := by decide +kernel
theorem dX11_visit_19 : decode cX11_visit 19 = .ok (.iaload, 1) := by decide +kernel
theorem dX11_visit_20 : decode cX11_visit 20 = .ok (.ifCond .ne 10, 3) := by decide +kernel
theorem dX11_visit_23 : decode cX11_visit 23 = .ok (.aload_n 0, 1) := by decide +kernel
theorem dX11_visit_24 : decode cX11_visit 24 = .ok (.ldc 64, 2) := by decide +kernel
theorem dX11_visit_26 : decode cX11_visit 26 = .ok (.invokevirtual 60, 3) := by decide +kernel
theorem dX11_visit_29 : decode cX11_visit 29 = .ok (.ireturn, 1) := by decide +kernel
theorem dX11_visit_30 : decode cX11_visit 30 = .ok (.aload_n 0, 1) := by decide +kernel
theorem dX11_visit_31 : decode cX11_visit 31 = .ok (.invokevirtual 165, 3) := by decide +kernel
theorem dX11_visit_34 : decode cX11_visit 34 = .ok (.iconst 0, 1) := by decide +kernel
theorem dX11_visit_35 : decode cX11_visit 35 = .ok (.istore_n 2, 1) := by decide +kernel
theorem dX11_visit_36 : decode cX11_visit 36 = .ok (.aload_n 0, 1) := by decide +kernel
theorem dX11_visit_37 : decode cX11_visit 37 = .ok (.getfield 9, 3) := by decide +kernel
theorem dX11_visit_40 : decode cX11_visit 40 = .ok (.iconst 3, 1) := by decide +kernel
theorem dX11_visit_41 : decode cX11_visit 41 = .ok (.iaload, 1) := by decide +kernel
theorem dX11_visit_42 : decode cX11_visit 42 = .ok (.iconst 1, 1) := by decide +kernel
theorem dX11_visit_43 : decode cX11_visit 43 = .ok (.isub, 1) := by decide +kernel
theorem dX11_visit_44 : decode cX11_visit 44 = .ok (.istore_n 3, 1) := by decide +kernel
theorem dX11_visit_45 : decode cX11_visit 45 = .ok (.iload_n 3, 1) := by decide +kernel
theorem dX11_visit_46 : decode cX11_visit 46 = .ok (.ifCond .lt 27, 3) := by decide +kernel
theorem dX11_visit_49 : decode cX11_visit 49 = .ok (.bipush 8, 2) := by decide +kernel
theorem dX11_visit_51 : decode cX11_visit 51 = .ok (.iload_n 2, 1) := by decide +kernel
theorem dX11_visit_52 : decode cX11_visit 52 = .ok (.imul, 1) := by decide +kernel
theorem dX11_visit_53 : decode cX11_visit 53 = .ok (.aload_n 0, 1) := by decide +kernel
theorem dX11_visit_54 : decode cX11_visit 54 = .ok (.getfield 9, 3) := by decide +kernel
theorem dX11_visit_57 : decode cX11_visit 57 = .ok (.sipush 149, 3) := by decide +kernel
theorem dX11_visit_60 : decode cX11_visit 60 = .ok (.iload_n 3, 1) := by decide +kernel
theorem dX11_visit_61 : decode cX11_visit 61 = .ok (.iadd, 1) := by decide +kernel
theorem dX11_visit_62 : decode cX11_visit 62 = .ok (.iaload, 1) := by decide +kernel
theorem dX11_visit_63 : decode cX11_visit 63 = .ok (.iadd, 1) := by decide +kernel
theorem dX11_visit_64 : decode cX11_visit 64 = .ok (.iconst 1, 1) := by decide +kernel
theorem dX11_visit_65 : decode cX11_visit 65 = .ok (.isub, 1) := by decide +kernel
theorem dX11_visit_66 : decode cX11_visit 66 = .ok (.istore_n 2, 1) := by decide +kernel
theorem dX11_visit_67 : decode cX11_visit 67 = .ok (.iinc 3 (-1), 3) := by decide +kernel
theorem dX11_visit_70 : decode cX11_visit 70 = .ok (.goto (-25), 3) := by decide +kernel
theorem dX11_visit_73 : decode cX11_visit 73 = .ok (.aload_n 0, 1) := by decide +kernel
theorem dX11_visit_74 : decode cX11_visit 74 = .ok (.getfield 40, 3) := by decide +kernel
theorem dX11_visit_77 : decode cX11_visit 77 = .ok (.iload_n 2, 1) := by decide +kernel
theorem dX11_visit_78 : decode cX11_visit 78 = .ok (.baload, 1) := by decide +kernel
theorem dX11_visit_79 : decode cX11_visit 79 = .ok (.ifCond .eq 6, 3) := by decide +kernel
theorem dX11_visit_82 : decode cX11_visit 82 = .ok (.ldc 113, 2) := by decide +kernel
theorem dX11_visit_84 : decode cX11_visit 84 = .ok (.ireturn, 1) := by decide +kernel
theorem dX11_visit_85 : decode cX11_visit 85 = .ok (.iconst 0, 1) := by decide +kernel
theorem dX11_visit_86 : decode cX11_visit 86 = .ok (.istore_n 3, 1) := by decide +kernel
theorem dX11_visit_87 : decode cX11_visit 87 = .ok (.iload_n 3, 1) := by decide +kernel
theorem dX11_visit_88 : decode cX11_visit 88 = .ok (.iload_n 1, 1) := by decide +kernel
theorem dX11_visit_89 : decode cX11_visit 89 = .ok (.if_icmp .ge 20, 3) := by decide +kernel
theorem dX11_visit_92 : decode cX11_visit 92 = .ok (.aload_n 0, 1) := by decide +kernel
theorem dX11_visit_93 : decode cX11_visit 93 = .ok (.iload_n 2, 1) := by decide +kernel
theorem dX11_visit_94 : decode cX11_visit 94 = .ok (.aload_n 0, 1) := by decide +kernel
theorem dX11_visit_95 : decode cX11_visit 95 = .ok (.iload_n 2, 1) := by decide +kernel
theorem dX11_visit_96 : decode cX11_visit 96 = .ok (.invokevirtual 162, 3) := by decide +kernel
theorem dX11_visit_99 : decode cX11_visit 99 = .ok (.invokevirtual 156, 3) := by decide +kernel
theorem dX11_visit_102 : decode cX11_visit 102 = .ok (.istore_n 2, 1) := by decide +kernel
theorem dX11_visit_103 : decode cX11_visit 103 = .ok (.iinc 3 1, 3) := by decide +kernel
theorem dX11_visit_106 : decode cX11_visit 106 = .ok (.goto (-19), 3) := by decide +kernel
theorem dX11_visit_109 : decode cX11_visit 109 = .ok (.aload_n 0, 1) := by decide +kernel
theorem dX11_visit_110 : decode cX11_visit 110 = .ok (.iload_n 2, 1) := by decide +kernel
theorem dX11_visit_111 : decode cX11_visit 111 = .ok (.invokevirtual 162, 3) := by decide +kernel
theorem dX11_visit_114 : decode cX11_visit 114 = .ok (.ireturn, 1) := by decide +kernel
set_option maxRecDepth 20000 in
theorem ggX11_isSet_X11_within : GoodIn wsX11_isSet wsX11_within := goodIn_r _ [4] (by decide +kernel) (by decide +kernel)
set_option maxRecDepth 20000 in
theorem gX11_isSet_X11_within : GoodIn wsX11_isSet (va_wsS RX11 47 yX11_within wsX11_within) := goodIn_app (goodIn_of _ (by decide +kernel)) ggX11_isSet_X11_within
theorem dX11_isSet_0 : decode cX11_isSet 0 = .ok (.iload_n 0, 1) := by decide +kernel
theorem dX11_isSet_1 : decode cX11_isSet 1 = .ok (.iconst 0, 1) := by decide +kernel
theorem dX11_isSet_2 : decode cX11_isSet 2 = .ok (.sipush 1023, 3) := by decide +kernel
theorem dX11_isSet_5 : decode cX11_isSet 5 = .ok (.invokestatic 47, 3) := by decide +kernel
theorem dX11_isSet_8 : decode cX11_isSet 8 = .ok (.ireturn, 1) := by decide +kernel
set_option maxRecDepth 20000 in
theorem ggX11_haunt_X11_within : GoodIn wsX11_haunt wsX11_within := goodIn_r _ [6] (by decide +kernel) (by decide +kernel)
set_option maxRecDepth 20000 in
theorem gX11_haunt_X11_within : GoodIn wsX11_haunt (va_wsS RX11 47 yX11_within wsX11_within) := goodIn_app (goodIn_of _ (by decide +kernel)) ggX11_haunt_X11_within
theorem dX11_haunt_0 : decode cX11_haunt 0 = .ok (.aload_n 0, 1) := by decide +kernel
theorem dX11_haunt_1 : decode cX11_haunt 1 = .ok (.getfield 9, 3) := by decide +kernel
theorem dX11_haunt_4 : decode cX11_haunt 4 = .ok (.iconst 4, 1) := by decide +kernel
theorem dX11_haunt_5 : decode cX11_haunt 5 = .ok (.iaload, 1) := by decide +kernel
theorem dX11_haunt_6 : decode cX11_haunt 6 = .ok (.istore_n 3, 1) := by decide +kernel
theorem dX11_haunt_7 : decode cX11_haunt 7 = .ok (.iload_n 1, 1) := by decide +kernel
theorem dX11_haunt_8 : decode cX11_haunt 8 = .ok (.iconst 1, 1) := by decide +kernel
theorem dX11_haunt_9 : decode cX11_haunt 9 = .ok (.sipush 1023, 3) := by decide +kernel
theorem dX11_haunt_12 : decode cX11_haunt 12 = .ok (.invokestatic 47, 3) := by decide +kernel
theorem dX11_haunt_15 : decode cX11_haunt 15 = .ok (.ifCond .eq 20, 3) := by decide +kernel
theorem dX11_haunt_18 : decode cX11_haunt 18 = .ok (.iload_n 2, 1) := by decide +kernel
theorem dX11_haunt_19 : decode cX11_haunt 19 = .ok (.iconst 1, 1) := by decide +kernel
theorem dX11_haunt_20 : decode cX11_haunt 20 = .ok (.sipush 1000, 3) := by decide +kernel
theorem dX11_haunt_23 : decode cX11_haunt 23 = .ok (.invokestatic 47, 3) := by decide +kernel
theorem dX11_haunt_26 : decode cX11_haunt 26 = .ok (.ifCond .eq 9, 3) := by decide +kernel
theorem dX11_haunt_29 : decode cX11_haunt 29 = .ok (.iload_n 3, 1) := by decide +kernel
theorem dX11_haunt_30 : decode cX11_haunt 30 = .ok (.bipush 20, 2) := by decide +kernel
theorem dX11_haunt_32 : decode cX11_haunt 32 = .ok (.if_icmp .ne 6, 3) := by decide +kernel
theorem dX11_haunt_35 : decode cX11_haunt 35 = .ok (.ldc 55, 2) := by decide +kernel
theorem dX11_haunt_37 : decode cX11_haunt 37 = .ok (.ireturn, 1) := by decide +kernel
theorem dX11_haunt_38 : decode cX11_haunt 38 = .ok (.aload_n 0, 1) := by decide +kernel
theorem dX11_haunt_39 : decode cX11_haunt 39 = .ok (.getfield 9, 3) := by decide +kernel
theorem dX11_haunt_42 : decode cX11_haunt 42 = .ok (.sipush 154, 3) := by decide +kernel
theorem dX11_haunt_45 : decode cX11_haunt 45 = .ok (.iload_n 3, 1) := by decide +kernel
theorem dX11_haunt_46 : decode cX11_haunt 46 = .ok (.iadd, 1) := by decide +kernel
theorem dX11_haunt_47 : decode cX11_haunt 47 = .ok (.iload_n 1, 1) := by decide +kernel
theorem dX11_haunt_48 : decode cX11_haunt 48 = .ok (.iastore, 1) := by decide +kernel
theorem dX11_haunt_49 : decode cX11_haunt 49 = .ok (.aload_n 0, 1) := by decide +kernel
theorem dX11_haunt_50 : decode cX11_haunt 50 = .ok (.getfield 9, 3) := by decide +kernel
theorem dX11_haunt_53 : decode cX11_haunt 53 = .ok (.sipush 174, 3) := by decide +kernel
theorem dX11_haunt_56 : decode cX11_haunt 56 = .ok (.iload_n 3, 1) := by decide +kernel
theorem dX11_haunt_57 : decode cX11_haunt 57 = .ok (.iadd, 1) := by decide +kernel
theorem dX11_haunt_58 : decode cX11_haunt 58 = .ok (.iload_n 2, 1) := by decide +kernel
theorem dX11_haunt_59 : decode cX11_haunt 59 = .ok (.iastore, 1) := by decide +kernel
theorem dX11_haunt_60 : decode cX11_haunt 60 = .ok (.aload_n 0, 1) := by decide +kernel
theorem dX11_haunt_61 : decode cX11_haunt 61 = .ok (.getfield 9, 3) := by decide +kernel
theorem dX11_haunt_64 : decode cX11_haunt 64 = .ok (.iconst 4, 1) := by decide +kernel
theorem dX11_haunt_65 : decode cX11_haunt 65 = .ok (.dup2, 1) := by decide +kernel
theorem dX11_haunt_66 : decode cX11_haunt 66 = .ok (.iaload, 1) := by decide +kernel
theorem dX11_haunt_67 : decode cX11_haunt 67 = .ok (.iconst 1, 1) := by decide +kernel
theorem dX11_haunt_68 : decode cX11_haunt 68 = .ok (.iadd, 1) := by decide +kernel
theorem dX11_haunt_69 : decode cX11_haunt 69 = .ok (.iastore, 1) := by decide +kernel
theorem dX11_haunt_70 : decode cX11_haunt 70 = .ok (.iload_n 3, 1) := by decide +kernel
theorem dX11_haunt_71 : decode cX11_haunt 71 = .ok (.ireturn, 1) := by decide +kernel
theorem dX11_caughtBy_0 : decode cX11_caughtBy 0 = .ok (.iconst 0, 1) := by decide +kernel
theorem dX11_caughtBy_1 : decode cX11_caughtBy 1 = .ok (.istore_n 2, 1) := by decide +kernel
theorem dX11_caughtBy_2 : decode cX11_caughtBy 2 = .ok (.iconst 0, 1) := by decide +kernel
theorem dX11_caughtBy_3 : decode cX11_caughtBy 3 = .ok (.istore_n 3, 1) := by decide +kernel
theorem dX11_caughtBy_4 : decode cX11_caughtBy 4 = .ok (.iload_n 3, 1) := by decide +kernel
theorem dX11_caughtBy_5 : decode cX11_caughtBy 5 = .ok (.aload_n 0, 1) := by decide +kernel
theorem dX11_caughtBy_6 : decode cX11_caughtBy 6 = .ok (.getfield 9, 3) := by decide +kernel
theorem dX11_caughtBy_9 : decode cX11_caughtBy 9 = .ok (.iconst 4, 1) := by decide +kernel
theorem dX11_caughtBy_10 : decode cX11_caughtBy 10 = .ok (.iaload, 1) := by decide +kernel
theorem dX11_caughtBy_11 : decode cX11_caughtBy 11 = .ok (.if_icmp .ge 41, 3) := by decide +kernel
theorem dX11_caughtBy_14 : decode cX11_caughtBy 14 = .ok (.iload_n 2, 1) := by decide +kernel
theorem dX11_caughtBy_15 : decode cX11_caughtBy 15 = .ok (.aload_n 0, 1) := by decide +kernel
theorem dX11_caughtBy_16 : decode cX11_caughtBy 16 = .ok (.getfield 9, 3) := by decide +kernel
theorem dX11_caughtBy_19 : decode cX11_caughtBy 19 = .ok (.sipush 154, 3) := by decide +kernel
theorem dX11_caughtBy_22 : decode cX11_caughtBy 22 = .ok (.iload_n 3, 1) := by decide +kernel
theorem dX11_caughtBy_23 : decode cX11_caughtBy 23 = .ok (.iadd, 1) := by decide +kernel
theorem dX11_caughtBy_24 : decode cX11_caughtBy 24 = .ok (.iaload, 1) := by decide +kernel
theorem dX11_caughtBy_25 : decode cX11_caughtBy 25 = .ok (.iload_n 1, 1) := by decide +kernel
theorem dX11_caughtBy_26 : decode cX11_caughtBy 26 = .ok (.iand, 1) := by decide +kernel
theorem dX11_caughtBy_27 : decode cX11_caughtBy 27 = .ok (.ifCond .eq 16, 3) := by decide +kernel
theorem dX11_caughtBy_30 : decode cX11_caughtBy 30 = .ok (.aload_n 0, 1) := by decide +kernel
theorem dX11_caughtBy_31 : decode cX11_caughtBy 31 = .ok (.getfield 9, 3) := by decide +kernel
theorem dX11_caughtBy_34 : decode cX11_caughtBy 34 = .ok (.sipush 174, 3) := by decide +kernel
theorem dX11_caughtBy_37 : decode cX11_caughtBy 37 = .ok (.iload_n 3, 1) := by decide +kernel
theorem dX11_caughtBy_38 : decode cX11_caughtBy 38 = .ok (.iadd, 1) := by decide +kernel
theorem dX11_caughtBy_39 : decode cX11_caughtBy 39 = .ok (.iaload, 1) := by decide +kernel
theorem dX11_caughtBy_40 : decode cX11_caughtBy 40 = .ok (.goto 4, 3) := by decide +kernel
theorem dX11_caughtBy_43 : decode cX11_caughtBy 43 = .ok (.iconst 0, 1) := by decide +kernel
theorem dX11_caughtBy_44 : decode cX11_caughtBy 44 = .ok (.iadd, 1) := by decide +kernel
theorem dX11_caughtBy_45 : decode cX11_caughtBy 45 = .ok (.istore_n 2, 1) := by decide +kernel
theorem dX11_caughtBy_46 : decode cX11_caughtBy 46 = .ok (.iinc 3 1, 3) := by decide +kernel
theorem dX11_caughtBy_49 : decode cX11_caughtBy 49 = .ok (.goto (-45), 3) := by decide +kernel
theorem dX11_caughtBy_52 : decode cX11_caughtBy 52 = .ok (.iload_n 2, 1) := by decide +kernel
theorem dX11_caughtBy_53 : decode cX11_caughtBy 53 = .ok (.ireturn, 1) := by decide +kernel
set_option maxRecDepth 20000 in
theorem ggX11_caught_X11_isSet : GoodIn wsX11_caught wsX11_isSet := goodIn_r _ [5, 6, 7, 4, 8] (by decide +kernel) (by decide +kernel)
set_option maxRecDepth 20000 in
theorem gX11_caught_X11_isSet : GoodIn wsX11_caught (va_wsS RX11 168 yX11_isSet wsX11_isSet) := goodIn_app (goodIn_of _ (by decide +kernel)) ggX11_caught_X11_isSet
set_option maxRecDepth 20000 in
theorem ggX11_caught_X11_caughtBy : GoodIn wsX11_caught wsX11_caughtBy := goodIn_r _ [12, 13, 14, 15, 16, 17, 18, 19, 20, 21, 22, 23, 24, 25, 26, 27, 28, 29, 30, 31, 32] (by decide +kernel) (by decide +kernel)
set_option maxRecDepth 20000 in
theorem gX11_caught_X11_caughtBy : GoodIn wsX11_caught (wsV RX11 171 RX11 yX11_caughtBy wsX11_caughtBy) := goodIn_app (goodIn_of _ (by decide +kernel)) ggX11_caught_X11_caughtBy
theorem dX11_caught_0 : decode cX11_caught 0 = .ok (.iload_n 1, 1) := by decide +kernel
theorem dX11_caught_1 : decode cX11_caught 1 = .ok (.invokestatic 168, 3) := by decide +kernel
theorem dX11_caught_4 : decode cX11_caught 4 = .ok (.ifCond .eq 11, 3) := by decide +kernel
theorem dX11_caught_7 : decode cX11_caught 7 = .ok (.aload_n 0, 1) := by decide +kernel
theorem dX11_caught_8 : decode cX11_caught 8 = .ok (.iload_n 1, 1) := by decide +kernel
theorem dX11_caught_9 : decode cX11_caught 9 = .ok (.invokevirtual 171, 3) := by decide +kernel
theorem dX11_caught_12 : decode cX11_caught 12 = .ok (.goto 5, 3) := by decide +kernel
theorem dX11_caught_15 : decode cX11_caught 15 = .ok (.ldc 55, 2) := by decide +kernel
theorem dX11_caught_17 : decode cX11_caught 17 = .ok (.ireturn, 1) := by decide +kernel
set_option maxRecDepth 20000 in
theorem ggX11_trap_X11_many : GoodIn wsX11_trap wsX11_many := goodIn_r _ [4] (by decide +kernel) (by decide +kernel)
set_option maxRecDepth 20000 in
theorem gX11_trap_X11_many : GoodIn wsX11_trap (va_wsS RX11 150 yX11_many wsX11_many) := goodIn_app (goodIn_of _ (by decide +kernel)) ggX11_trap_X11_many
set_option maxRecDepth 20000 in
theorem ggX11_trap_X11_caughtBy : GoodIn wsX11_trap wsX11_caughtBy := goodIn_r _ [8, 9, 10, 11, 12, 13, 14, 15, 16, 17, 18, 19, 20, 21, 22, 23, 24, 25, 26, 27, 28] (by decide +kernel) (by decide +kernel)
set_option maxRecDepth 20000 in
theorem gX11_trap_X11_caughtBy : GoodIn wsX11_trap (wsV RX11 171 RX11 yX11_caughtBy wsX11_caughtBy) := goodIn_app (goodIn_of _ (by decide +kernel)) ggX11_trap_X11_caughtBy
theorem dX11_trap_0 : decode cX11_trap 0 = .ok (.iconst 0, 1) := by decide +kernel
theorem dX11_trap_1 : decode cX11_trap 1 = .ok (.istore_n 2, 1) := by decide +kernel
theorem dX11_trap_2 : decode cX11_trap 2 = .ok (.iconst 1, 1) := by decide +kernel
theorem dX11_trap_3 : decode cX11_trap 3 = .ok (.istore_n 3, 1) := by decide +kernel
theorem dX11_trap_4 : decode cX11_trap 4 = .ok (.iload_n 3, 1) := by decide +kernel
theorem dX11_trap_5 : decode cX11_trap 5 = .ok (.iload_n 1, 1) := by decide +kernel
theorem dX11_trap_6 : decode cX11_trap 6 = .ok (.if_icmp .gt 52, 3) := by decide +kernel
theorem dX11_trap_9 : decode cX11_trap 9 = .ok (.iconst 1, 1) := by decide +kernel
theorem dX11_trap_10 : decode cX11_trap 10 = .ok (.istore 4, 2) := by decide +kernel
theorem dX11_trap_12 : decode cX11_trap 12 = .ok (.iload 4, 2) := by decide +kernel
theorem dX11_trap_14 : decode cX11_trap 14 = .ok (.sipush 1024, 3) := by decide +kernel
theorem dX11_trap_17 : decode cX11_trap 17 = .ok (.if_icmp .ge 35, 3) := by decide +kernel
theorem dX11_trap_20 : decode cX11_trap 20 = .ok (.iload 4, 2) := by decide +kernel
theorem dX11_trap_22 : decode cX11_trap 22 = .ok (.invokestatic 150, 3) := by decide +kernel
theorem dX11_trap_25 : decode cX11_trap 25 = .ok (.iload_n 3, 1) := by decide +kernel
theorem dX11_trap_26 : decode cX11_trap 26 = .ok (.if_icmp .ne 20, 3) := by decide +kernel
theorem dX11_trap_29 : decode cX11_trap 29 = .ok (.aload_n 0, 1) := by decide +kernel
theorem dX11_trap_30 : decode cX11_trap 30 = .ok (.iload 4, 2) := by decide +kernel
theorem dX11_trap_32 : decode cX11_trap 32 = .ok (.invokevirtual 171, 3) := by decide +kernel
theorem dX11_trap_35 : decode cX11_trap 35 = .ok (.aload_n 0, 1) := by decide +kernel
theorem dX11_trap_36 : decode cX11_trap 36 = .ok (.iload_n 2, 1) := by decide +kernel
theorem dX11_trap_37 : decode cX11_trap 37 = .ok (.invokevirtual 171, 3) := by decide +kernel
theorem dX11_trap_40 : decode cX11_trap 40 = .ok (.if_icmp .le 6, 3) := by decide +kernel
theorem dX11_trap_43 : decode cX11_trap 43 = .ok (.iload 4, 2) := by decide +kernel
theorem dX11_trap_45 : decode cX11_trap 45 = .ok (.istore_n 2, 1) := by decide +kernel
theorem dX11_trap_46 : decode cX11_trap 46 = .ok (.iinc 4 1, 3) := by decide +kernel
theorem dX11_trap_49 : decode cX11_trap 49 = .ok (.goto (-37), 3) := by decide +kernel
theorem dX11_trap_52 : decode cX11_trap 52 = .ok (.iinc 3 1, 3) := by decide +kernel
theorem dX11_trap_55 : decode cX11_trap 55 = .ok (.goto (-51), 3) := by decide +kernel
theorem dX11_trap_58 : decode cX11_trap 58 = .ok (.iload_n 2, 1) := by decide +kernel
theorem dX11_trap_59 : decode cX11_trap 59 = .ok (.ireturn, 1) := by decide +kernel
set_option maxRecDepth 20000 in
theorem ggX11_traps_X11_within : GoodIn wsX11_traps wsX11_within := goodIn_r _ [5] (by decide +kernel) (by decide +kernel)
set_option maxRecDepth 20000 in
theorem gX11_traps_X11_within : GoodIn wsX11_traps (va_wsS RX11 47 yX11_within wsX11_within) := goodIn_app (goodIn_of _ (by decide +kernel)) ggX11_traps_X11_within
set_option maxRecDepth 20000 in
theorem ggX11_traps_X11_trap : GoodIn wsX11_traps wsX11_trap := goodIn_r _ [9, 10, 11, 4, 12, 13, 14, 15, 16, 17, 18, 19, 20, 21, 22, 23, 24, 25, 26, 27, 28, 29, 30, 31, 32, 33, 34, 35, 36] (by decide +kernel) (by decide +kernel)
set_option maxRecDepth 20000 in
theorem gX11_traps_X11_trap : GoodIn wsX11_traps (wsV RX11 174 RX11 yX11_trap wsX11_trap) := goodIn_app (goodIn_of _ (by decide +kernel)) ggX11_traps_X11_trap
theorem dX11_traps_0 : decode cX11_traps 0 = .ok (.iload_n 1, 1) := by decide +kernel
theorem dX11_traps_1 : decode cX11_traps 1 = .ok (.iconst 0, 1) := by decide +kernel
theorem dX11_traps_2 : decode cX11_traps 2 = .ok (.bipush 10, 2) := by decide +kernel
theorem dX11_traps_4 : decode cX11_traps 4 = .ok (.invokestatic 47, 3) := by decide +kernel
theorem dX11_traps_7 : decode cX11_traps 7 = .ok (.ifCond .eq 11, 3) := by decide +kernel
theorem dX11_traps_10 : decode cX11_traps 10 = .ok (.aload_n 0, 1) := by decide +kernel
theorem dX11_traps_11 : decode cX11_traps 11 = .ok (.iload_n 1, 1) := by decide +kernel
theorem dX11_traps_12 : decode cX11_traps 12 = .ok (.invokevirtual 174, 3) := by decide +kernel
theorem dX11_traps_15 : decode cX11_traps 15 = .ok (.goto 5, 3) := by decide +kernel
theorem dX11_traps_18 : decode cX11_traps 18 = .ok (.ldc 55, 2) := by decide +kernel
theorem dX11_traps_20 : decode cX11_traps 20 = .ok (.ireturn, 1) := by decide +kernel
set_option maxRecDepth 20000 in
theorem ggX11_cover_X11_trap : GoodIn wsX11_cover wsX11_trap := goodIn_r _ [5, 6, 7, 4, 8, 9, 10, 11, 12, 13, 14, 15, 16, 17, 18, 19, 20, 21, 22, 23, 24, 25, 26, 27, 28, 29, 30, 31, 32] (by decide +kernel) (by decide +kernel)
set_option maxRecDepth 20000 in
theorem gX11_cover_X11_trap : GoodIn wsX11_cover (wsV RX11 174 RX11 yX11_trap wsX11_trap) := goodIn_app (goodIn_of _ (by decide +kernel)) ggX11_cover_X11_trap
theorem dX11_cover_0 : decode cX11_cover 0 = .ok (.aload_n 0, 1) := by decide +kernel
theorem dX11_cover_1 : decode cX11_cover 1 = .ok (.bipush 10, 2) := by decide +kernel
theorem dX11_cover_3 : decode cX11_cover 3 = .ok (.invokevirtual 174, 3) := by decide +kernel
theorem dX11_cover_6 : decode cX11_cover 6 = .ok (.ireturn, 1) := by decide +kernel
set_option maxRecDepth 20000 in
theorem ggX11_isSheet_X11_within : GoodIn wsX11_isSheet wsX11_within := goodIn_r _ [4] (by decide +kernel) (by decide +kernel)
set_option maxRecDepth 20000 in
theorem gX11_isSheet_X11_within : GoodIn wsX11_isSheet (va_wsS RX11 47 yX11_within wsX11_within) := goodIn_app (goodIn_of _ (by decide +kernel)) ggX11_isSheet_X11_within
theorem dX11_isSheet_0 : decode cX11_isSheet 0 = .ok (.iload_n 0, 1) := by decide +kernel
theorem dX11_isSheet_1 : decode cX11_isSheet 1 = .ok (.iconst 0, 1) := by decide +kernel
theorem dX11_isSheet_2 : decode cX11_isSheet 2 = .ok (.iconst 3, 1) := by decide +kernel
theorem dX11_isSheet_3 : decode cX11_isSheet 3 = .ok (.invokestatic 47, 3) := by decide +kernel
theorem dX11_isSheet_6 : decode cX11_isSheet 6 = .ok (.ireturn, 1) := by decide +kernel
set_option maxRecDepth 20000 in
theorem ggX11_sheet_X11_isSheet : GoodIn wsX11_sheet wsX11_isSheet := goodIn_r _ [9, 10, 11, 8, 12] (by decide +kernel) (by decide +kernel)
set_option maxRecDepth 20000 in
theorem gX11_sheet_X11_isSheet : GoodIn wsX11_sheet (va_wsS RX11 177 yX11_isSheet wsX11_isSheet) := goodIn_app (goodIn_of _ (by decide +kernel)) ggX11_sheet_X11_isSheet
set_option maxRecDepth 20000 in
theorem ggX11_sheet_X11_within : GoodIn wsX11_sheet wsX11_within := goodIn_r _ [12] (by decide +kernel) (by decide +kernel)
set_option maxRecDepth 20000 in
theorem gX11_sheet_X11_within : GoodIn wsX11_sheet (va_wsS RX11 47 yX11_within wsX11_within) := goodIn_app (goodIn_of _ (by decide +kernel)) ggX11_sheet_X11_within
set_option maxRecDepth 20000 in
theorem ggX11_sheet_X11_found : GoodIn wsX11_sheet wsX11_found := goodIn_r _ [16, 17, 18, 19, 20, 21, 22, 23, 24, 25, 26, 27, 28, 29, 30, 31, 32, 33, 34, 35, 36] (by decide +kernel) (by decide +kernel)
set_option maxRecDepth 20000 in
theorem gX11_sheet_X11_found : GoodIn wsX11_sheet (wsV RX11 60 RX11 yX11_found wsX11_found) := goodIn_app (goodIn_of _ (by decide +kernel)) ggX11_sheet_X11_found
theorem dX11_sheet_0 : decode cX11_sheet 0 = .ok (.iload_n 1, 1) := by decide +kernel
theorem dX11_sheet_1 : decode cX11_sheet 1 = .ok (.invokestatic 177, 3) := by decide +kernel
theorem dX11_sheet_4 : decode cX11_sheet 4 = .ok (.ifCond .eq 18, 3) := by decide +kernel
theorem dX11_sheet_7 : decode cX11_sheet 7 = .ok (.iload_n 2, 1) := by decide +kernel
theorem dX11_sheet_8 : decode cX11_sheet 8 = .ok (.iconst 0, 1) := by decide +kernel
theorem dX11_sheet_9 : decode cX11_sheet 9 = .ok (.iconst 2, 1) := by decide +kernel
theorem dX11_sheet_10 : decode cX11_sheet 10 = .ok (.invokestatic 47, 3) := by decide +kernel
theorem dX11_sheet_13 : decode cX11_sheet 13 = .ok (.ifCond .eq 9, 3) := by decide +kernel
theorem dX11_sheet_16 : decode cX11_sheet 16 = .ok (.iload_n 3, 1) := by decide +kernel
theorem dX11_sheet_17 : decode cX11_sheet 17 = .ok (.bipush 40, 2) := by decide +kernel
theorem dX11_sheet_19 : decode cX11_sheet 19 = .ok (.if_icmp .le 6, 3) := by decide +kernel
theorem dX11_sheet_22 : decode cX11_sheet 22 = .ok (.ldc 55, 2) := by decide +kernel
theorem dX11_sheet_24 : decode cX11_sheet 24 = .ok (.ireturn, 1) := by decide +kernel
theorem dX11_sheet_25 : decode cX11_sheet 25 = .ok (.iload_n 3, 1) := by decide +kernel
theorem dX11_sheet_26 : decode cX11_sheet 26 = .ok (.ifCond .ge 10, 3) := by decide +kernel
theorem dX11_sheet_29 : decode cX11_sheet 29 = .ok (.aload_n 0, 1) := by decide +kernel
theorem dX11_sheet_30 : decode cX11_sheet 30 = .ok (.ldc 180, 2) := by decide +kernel
theorem dX11_sheet_32 : decode cX11_sheet 32 = .ok (.invokevirtual 60, 3) := by decide +kernel
theorem dX11_sheet_35 : decode cX11_sheet 35 = .ok (.ireturn, 1) := by decide +kernel
theorem dX11_sheet_36 : decode cX11_sheet 36 = .ok (.aload_n 0, 1) := by decide +kernel
theorem dX11_sheet_37 : decode cX11_sheet 37 = .ok (.getfield 20, 3) := by decide +kernel
theorem dX11_sheet_40 : decode cX11_sheet 40 = .ok (.iload_n 1, 1) := by decide +kernel
theorem dX11_sheet_41 : decode cX11_sheet 41 = .ok (.iload_n 2, 1) := by decide +kernel
theorem dX11_sheet_42 : decode cX11_sheet 42 = .ok (.iastore, 1) := by decide +kernel
theorem dX11_sheet_43 : decode cX11_sheet 43 = .ok (.aload_n 0, 1) := by decide +kernel
theorem dX11_sheet_44 : decode cX11_sheet 44 = .ok (.getfield 23, 3) := by decide +kernel
theorem dX11_sheet_47 : decode cX11_sheet 47 = .ok (.iload_n 1, 1) := by decide +kernel
theorem dX11_sheet_48 : decode cX11_sheet 48 = .ok (.iload_n 3, 1) := by decide +kernel
theorem dX11_sheet_49 : decode cX11_sheet 49 = .ok (.iastore, 1) := by decide +kernel
theorem dX11_sheet_50 : decode cX11_sheet 50 = .ok (.iconst 0, 1) := by decide +kernel
theorem dX11_sheet_51 : decode cX11_sheet 51 = .ok (.istore 4, 2) := by decide +kernel
theorem dX11_sheet_53 : decode cX11_sheet 53 = .ok (.iload 4, 2) := by decide +kernel
theorem dX11_sheet_55 : decode cX11_sheet 55 = .ok (.bipush 40, 2) := by decide +kernel
theorem dX11_sheet_57 : decode cX11_sheet 57 = .ok (.if_icmp .ge 22, 3) := by decide +kernel
theorem dX11_sheet_60 : decode cX11_sheet 60 = .ok (.aload_n 0, 1) := by decide +kernel
theorem dX11_sheet_61 : decode cX11_sheet 61 = .ok (.getfield 26, 3) := by decide +kernel
theorem dX11_sheet_64 : decode cX11_sheet 64 = .ok (.bipush 40, 2) := by decide +kernel
theorem dX11_sheet_66 : decode cX11_sheet 66 = .ok (.iload_n 1, 1) := by decide +kernel
theorem dX11_sheet_67 : decode cX11_sheet 67 = .ok (.imul, 1) := by decide +kernel
theorem dX11_sheet_68 : decode cX11_sheet 68 = .ok (.iload 4, 2) := by decide +kernel
theorem dX11_sheet_70 : decode cX11_sheet 70 = .ok (.iadd, 1) := by decide +kernel
theorem dX11_sheet_71 : decode cX11_sheet 71 = .ok (.iconst 0, 1) := by decide +kernel
theorem dX11_sheet_72 : decode cX11_sheet 72 = .ok (.iastore, 1) := by decide +kernel
theorem dX11_sheet_73 : decode cX11_sheet 73 = .ok (.iinc 4 1, 3) := by decide +kernel
theorem dX11_sheet_76 : decode cX11_sheet 76 = .ok (.goto (-23), 3) := by decide +kernel
theorem dX11_sheet_79 : decode cX11_sheet 79 = .ok (.iload_n 3, 1) := by decide +kernel
theorem dX11_sheet_80 : decode cX11_sheet 80 = .ok (.ireturn, 1) := by decide +kernel
set_option maxRecDepth 20000 in
theorem ggX11_write_X11_isSheet : GoodIn wsX11_write wsX11_isSheet := goodIn_r _ [10, 11, 12, 9, 13] (by decide +kernel) (by decide +kernel)
set_option maxRecDepth 20000 in
theorem gX11_write_X11_isSheet : GoodIn wsX11_write (va_wsS RX11 177 yX11_isSheet wsX11_isSheet) := goodIn_app (goodIn_of _ (by decide +kernel)) ggX11_write_X11_isSheet
set_option maxRecDepth 20000 in
theorem ggX11_write_X11_found : GoodIn wsX11_write wsX11_found := goodIn_r _ [17, 18, 19, 20, 21, 22, 23, 24, 25, 26, 27, 28, 29, 30, 31, 32, 33, 34, 35, 36, 37] (by decide +kernel) (by decide +kernel)
set_option maxRecDepth 20000 in
theorem gX11_write_X11_found : GoodIn wsX11_write (wsV RX11 60 RX11 yX11_found wsX11_found) := goodIn_app (goodIn_of _ (by decide +kernel)) ggX11_write_X11_found
set_option maxRecDepth 20000 in
theorem ggX11_write_X11_within : GoodIn wsX11_write wsX11_within := goodIn_r _ [13] (by decide +kernel) (by decide +kernel)
set_option maxRecDepth 20000 in
theorem gX11_write_X11_within : GoodIn wsX11_write (va_wsS RX11 47 yX11_within wsX11_within) := goodIn_app (goodIn_of _ (by decide +kernel)) ggX11_write_X11_within
theorem dX11_write_0 : decode cX11_write 0 = .ok (.iload_n 1, 1) := by decide +kernel
theorem dX11_write_1 : decode cX11_write 1 = .ok (.invokestatic 177, 3) := by decide +kernel
theorem dX11_write_4 : decode cX11_write 4 = .ok (.ifCond .ne 6, 3) := by decide +kernel
theorem dX11_write_7 : decode cX11_write 7 = .ok (.ldc 55, 2) := by decide +kernel
theorem dX11_write_9 : decode cX11_write 9 = .ok (.ireturn, 1) := by decide +kernel
theorem dX11_write_10 : decode cX11_write 10 = .ok (.aload_n 0, 1) := by decide +kernel
theorem dX11_write_11 : decode cX11_write 11 = .ok (.getfield 20, 3) := by decide +kernel
theorem dX11_write_14 : decode cX11_write 14 = .ok (.iload_n 1, 1) := by decide +kernel
theorem dX11_write_15 : decode cX11_write 15 = .ok (.iaload, 1) := by decide +kernel
theorem dX11_write_16 : decode cX11_write 16 = .ok (.ifCond .ge 10, 3) := by decide +kernel
theorem dX11_write_19 : decode cX11_write 19 = .ok (.aload_n 0, 1) := by decide +kernel
theorem dX11_write_20 : decode cX11_write 20 = .ok (.ldc 64, 2) := by decide +kernel
theorem dX11_write_22 : decode cX11_write 22 = .ok (.invokevirtual 60, 3) := by decide +kernel
theorem dX11_write_25 : decode cX11_write 25 = .ok (.ireturn, 1) := by decide +kernel
theorem dX11_write_26 : decode cX11_write 26 = .ok (.iload_n 2, 1) := by decide +kernel
theorem dX11_write_27 : decode cX11_write 27 = .ok (.iconst 0, 1) := by decide +kernel
theorem dX11_write_28 : decode cX11_write 28 = .ok (.aload_n 0, 1) := by decide +kernel
theorem dX11_write_29 : decode cX11_write 29 = .ok (.getfield 23, 3) := by decide +kernel
theorem dX11_write_32 : decode cX11_write 32 = .ok (.iload_n 1, 1) := by decide +kernel
theorem dX11_write_33 : decode cX11_write 33 = .ok (.iaload, 1) := by decide +kernel
theorem dX11_write_34 : decode cX11_write 34 = .ok (.iconst 1, 1) := by decide +kernel
theorem dX11_write_35 : decode cX11_write 35 = .ok (.isub, 1) := by decide +kernel
theorem dX11_write_36 : decode cX11_write 36 = .ok (.invokestatic 47, 3) := by decide +kernel
theorem dX11_write_39 : decode cX11_write 39 = .ok (.ifCond .ne 10, 3) := by decide +kernel
theorem dX11_write_42 : decode cX11_write 42 = .ok (.aload_n 0, 1) := by decide +kernel
theorem dX11_write_43 : decode cX11_write 43 = .ok (.ldc 181, 2) := by decide +kernel
theorem dX11_write_45 : decode cX11_write 45 = .ok (.invokevirtual 60, 3) := by decide +kernel
theorem dX11_write_48 : decode cX11_write 48 = .ok (.ireturn, 1) := by decide +kernel
theorem dX11_write_49 : decode cX11_write 49 = .ok (.aload_n 0, 1) := by decide +kernel
theorem dX11_write_50 : decode cX11_write 50 = .ok (.getfield 26, 3) := by decide +kernel
theorem dX11_write_53 : decode cX11_write 53 = .ok (.bipush 40, 2) := by decide +kernel
theorem dX11_write_55 : decode cX11_write 55 = .ok (.iload_n 1, 1) := by decide +kernel
theorem dX11_write_56 : decode cX11_write 56 = .ok (.imul, 1) := by decide +kernel
theorem dX11_write_57 : decode cX11_write 57 = .ok (.iload_n 2, 1) := by decide +kernel
theorem dX11_write_58 : decode cX11_write 58 = .ok (.iadd, 1) := by decide +kernel
theorem dX11_write_59 : decode cX11_write 59 = .ok (.iaload, 1) := by decide +kernel
theorem dX11_write_60 : decode cX11_write 60 = .ok (.istore 4, 2) := by decide +kernel
theorem dX11_write_62 : decode cX11_write 62 = .ok (.aload_n 0, 1) := by decide +kernel
theorem dX11_write_63 : decode cX11_write 63 = .ok (.getfield 20, 3) := by decide +kernel
theorem dX11_write_66 : decode cX11_write 66 = .ok (.iload_n 1, 1) := by decide +kernel
theorem dX11_write_67 : decode cX11_write 67 = .ok (.iaload, 1) := by decide +kernel
theorem dX11_write_68 : decode cX11_write 68 = .ok (.ifCond .ne 8, 3) := by decide +kernel
theorem dX11_write_71 : decode cX11_write 71 = .ok (.bipush 24, 2) := by decide +kernel
theorem dX11_write_73 : decode cX11_write 73 = .ok (.goto 19, 3) := by decide +kernel
theorem dX11_write_76 : decode cX11_write 76 = .ok (.aload_n 0, 1) := by decide +kernel
theorem dX11_write_77 : decode cX11_write 77 = .ok (.getfield 20, 3) := by decide +kernel
theorem dX11_write_80 : decode cX11_write 80 = .ok (.iload_n 1, 1) := by decide +kernel
theorem dX11_write_81 : decode cX11_write 81 = .ok (.iaload, 1) := by decide +kernel
theorem dX11_write_82 : decode cX11_write 82 = .ok (.iconst 1, 1) := by decide +kernel
theorem dX11_write_83 : decode cX11_write 83 = .ok (.if_icmp .ne 8, 3) := by decide +kernel
theorem dX11_write_86 : decode cX11_write 86 = .ok (.bipush 16, 2) := by decide +kernel
theorem dX11_write_88 : decode cX11_write 88 = .ok (.goto 4, 3) := by decide +kernel
theorem dX11_write_91 : decode cX11_write 91 = .ok (.iconst 0, 1) := by decide +kernel
theorem dX11_write_92 : decode cX11_write 92 = .ok (.istore 5, 2) := by decide +kernel
theorem dX11_write_94 : decode cX11_write 94 = .ok (.aload_n 0, 1) := by decide +kernel
theorem dX11_write_95 : decode cX11_write 95 = .ok (.getfield 26, 3) := by decide +kernel
theorem dX11_write_98 : decode cX11_write 98 = .ok (.bipush 40, 2) := by decide +kernel
theorem dX11_write_100 : decode cX11_write 100 = .ok (.iload_n 1, 1) := by decide +kernel
theorem dX11_write_101 : decode cX11_write 101 = .ok (.imul, 1) := by decide +kernel
theorem dX11_write_102 : decode cX11_write 102 = .ok (.iload_n 2, 1) := by decide +kernel
theorem dX11_write_103 : decode cX11_write 103 = .ok (.iadd, 1) := by decide +kernel
theorem dX11_write_104 : decode cX11_write 104 = .ok (.iload_n 3, 1) := by decide +kernel
theorem dX11_write_105 : decode cX11_write 105 = .ok (.iload 5, 2) := by decide +kernel
theorem dX11_write_107 : decode cX11_write 107 = .ok (.ishl, 1) := by decide +kernel
theorem dX11_write_108 : decode cX11_write 108 = .ok (.iload 5, 2) := by decide +kernel
theorem dX11_write_110 : decode cX11_write 110 = .ok (.ishr, 1) := by decide +kernel
theorem dX11_write_111 : decode cX11_write 111 = .ok (.iastore, 1) := by decide +kernel
theorem dX11_write_112 : decode cX11_write 112 = .ok (.iload 4, 2) := by decide +kernel
theorem dX11_write_114 : decode cX11_write 114 = .ok (.ireturn, 1) := by decide +kernel
set_option maxRecDepth 20000 in
theorem ggX11_handFrom_X11_isSheet : GoodIn wsX11_handFrom wsX11_isSheet := goodIn_r _ [12, 13, 14, 11, 15] (by decide +kernel) (by decide +kernel)
set_option maxRecDepth 20000 in
theorem gX11_handFrom_X11_isSheet : GoodIn wsX11_handFrom (va_wsS RX11 177 yX11_isSheet wsX11_isSheet) := goodIn_app (goodIn_of _ (by decide +kernel)) ggX11_handFrom_X11_isSheet
set_option maxRecDepth 20000 in
theorem ggX11_handFrom_X11_within : GoodIn wsX11_handFrom wsX11_within := goodIn_r _ [15] (by decide +kernel) (by decide +kernel)
set_option maxRecDepth 20000 in
theorem gX11_handFrom_X11_within : GoodIn wsX11_handFrom (va_wsS RX11 47 yX11_within wsX11_within) := goodIn_app (goodIn_of _ (by decide +kernel)) ggX11_handFrom_X11_within
set_option maxRecDepth 20000 in
theorem ggX11_handFrom_X11_found : GoodIn wsX11_handFrom wsX11_found := goodIn_r _ [19, 20, 21, 22, 23, 24, 25, 26, 27, 28, 29, 30, 31, 32, 33, 34, 35, 36, 37, 38, 39] (by decide +kernel) (by decide +kernel)
set_option maxRecDepth 20000 in
theorem gX11_handFrom_X11_found : GoodIn wsX11_handFrom (wsV RX11 60 RX11 yX11_found wsX11_found) := goodIn_app (goodIn_of _ (by decide +kernel)) ggX11_handFrom_X11_found
theorem dX11_handFrom_0 : decode cX11_handFrom 0 = .ok (.iload_n 1, 1) := by decide +kernel
theorem dX11_handFrom_1 : decode cX11_handFrom 1 = .ok (.invokestatic 177, 3) := by decide +kernel
theorem dX11_handFrom_4 : decode cX11_handFrom 4 = .ok (.ifCond .eq 12, 3) := by decide +kernel
theorem dX11_handFrom_7 : decode cX11_handFrom 7 = .ok (.iload_n 2, 1) := by decide +kernel
theorem dX11_handFrom_8 : decode cX11_handFrom 8 = .ok (.iconst 0, 1) := by decide +kernel
theorem dX11_handFrom_9 : decode cX11_handFrom 9 = .ok (.iconst 2, 1) := by decide +kernel
theorem dX11_handFrom_10 : decode cX11_handFrom 10 = .ok (.invokestatic 47, 3) := by decide +kernel
theorem dX11_handFrom_13 : decode cX11_handFrom 13 = .ok (.ifCond .ne 6, 3) := by decide +kernel
theorem dX11_handFrom_16 : decode cX11_handFrom 16 = .ok (.ldc 55, 2) := by decide +kernel
theorem dX11_handFrom_18 : decode cX11_handFrom 18 = .ok (.ireturn, 1) := by decide +kernel
theorem dX11_handFrom_19 : decode cX11_handFrom 19 = .ok (.aload_n 0, 1) := by decide +kernel
theorem dX11_handFrom_20 : decode cX11_handFrom 20 = .ok (.getfield 20, 3) := by decide +kernel
theorem dX11_handFrom_23 : decode cX11_handFrom 23 = .ok (.iload_n 1, 1) := by decide +kernel
theorem dX11_handFrom_24 : decode cX11_handFrom 24 = .ok (.iaload, 1) := by decide +kernel
theorem dX11_handFrom_25 : decode cX11_handFrom 25 = .ok (.ifCond .ge 10, 3) := by decide +kernel
theorem dX11_handFrom_28 : decode cX11_handFrom 28 = .ok (.aload_n 0, 1) := by decide +kernel
theorem dX11_handFrom_29 : decode cX11_handFrom 29 = .ok (.ldc 64, 2) := by decide +kernel
theorem dX11_handFrom_31 : decode cX11_handFrom 31 = .ok (.invokevirtual 60, 3) := by decide +kernel
theorem dX11_handFrom_34 : decode cX11_handFrom 34 = .ok (.ireturn, 1) := by decide +kernel
theorem dX11_handFrom_35 : decode cX11_handFrom 35 = .ok (.aload_n 0, 1) := by decide +kernel
theorem dX11_handFrom_36 : decode cX11_handFrom 36 = .ok (.getfield 20, 3) := by decide +kernel
theorem dX11_handFrom_39 : decode cX11_handFrom 39 = .ok (.iload_n 1, 1) := by decide +kernel
theorem dX11_handFrom_40 : decode cX11_handFrom 40 = .ok (.iaload, 1) := by decide +kernel
theorem dX11_handFrom_41 : decode cX11_handFrom 41 = .ok (.iload_n 2, 1) := by decide +kernel
theorem dX11_handFrom_42 : decode cX11_handFrom 42 = .ok (.if_icmp .eq 10, 3) := by decide +kernel
theorem dX11_handFrom_45 : decode cX11_handFrom 45 = .ok (.aload_n 0, 1) := by decide +kernel
theorem dX11_handFrom_46 : decode cX11_handFrom 46 = .ok (.ldc 59, 2) := by decide +kernel
theorem dX11_handFrom_48 : decode cX11_handFrom 48 = .ok (.invokevirtual 60, 3) := by decide +kernel
theorem dX11_handFrom_51 : decode cX11_handFrom 51 = .ok (.ireturn, 1) := by decide +kernel
theorem dX11_handFrom_52 : decode cX11_handFrom 52 = .ok (.aload_n 0, 1) := by decide +kernel
theorem dX11_handFrom_53 : decode cX11_handFrom 53 = .ok (.getfield 9, 3) := by decide +kernel
theorem dX11_handFrom_56 : decode cX11_handFrom 56 = .ok (.iconst 0, 1) := by decide +kernel
theorem dX11_handFrom_57 : decode cX11_handFrom 57 = .ok (.iaload, 1) := by decide +kernel
theorem dX11_handFrom_58 : decode cX11_handFrom 58 = .ok (.istore 4, 2) := by decide +kernel
theorem dX11_handFrom_60 : decode cX11_handFrom 60 = .ok (.iload 4, 2) := by decide +kernel
theorem dX11_handFrom_62 : decode cX11_handFrom 62 = .ok (.ifCond .le 27, 3) := by decide +kernel
theorem dX11_handFrom_65 : decode cX11_handFrom 65 = .ok (.iload_n 3, 1) := by decide +kernel
theorem dX11_handFrom_66 : decode cX11_handFrom 66 = .ok (.ifCond .lt 16, 3) := by decide +kernel
theorem dX11_handFrom_69 : decode cX11_handFrom 69 = .ok (.iload_n 3, 1) := by decide +kernel
theorem dX11_handFrom_70 : decode cX11_handFrom 70 = .ok (.aload_n 0, 1) := by decide +kernel
theorem dX11_handFrom_71 : decode cX11_handFrom 71 = .ok (.getfield 23, 3) := by decide +kernel
theorem dX11_handFrom_74 : decode cX11_handFrom 74 = .ok (.iload_n 1, 1) := by decide +kernel
theorem dX11_handFrom_75 : decode cX11_handFrom 75 = .ok (.iaload, 1) := by decide +kernel
theorem dX11_handFrom_76 : decode cX11_handFrom 76 = .ok (.iload 4, 2) := by decide +kernel
theorem dX11_handFrom_78 : decode cX11_handFrom 78 = .ok (.isub, 1) := by decide +kernel
theorem dX11_handFrom_79 : decode cX11_handFrom 79 = .ok (.if_icmp .le 10, 3) := by decide +kernel
theorem dX11_handFrom_82 : decode cX11_handFrom 82 = .ok (.aload_n 0, 1) := by decide +kernel
theorem dX11_handFrom_83 : decode cX11_handFrom 83 = .ok (.ldc 181, 2) := by decide +kernel
theorem dX11_handFrom_85 : decode cX11_handFrom 85 = .ok (.invokevirtual 60, 3) := by decide +kernel
theorem dX11_handFrom_88 : decode cX11_handFrom 88 = .ok (.ireturn, 1) := by decide +kernel
theorem dX11_handFrom_89 : decode cX11_handFrom 89 = .ok (.iconst 0, 1) := by decide +kernel
theorem dX11_handFrom_90 : decode cX11_handFrom 90 = .ok (.istore 5, 2) := by decide +kernel
theorem dX11_handFrom_92 : decode cX11_handFrom 92 = .ok (.iconst 0, 1) := by decide +kernel
theorem dX11_handFrom_93 : decode cX11_handFrom 93 = .ok (.istore 6, 2) := by decide +kernel
theorem dX11_handFrom_95 : decode cX11_handFrom 95 = .ok (.iload 6, 2) := by decide +kernel
theorem dX11_handFrom_97 : decode cX11_handFrom 97 = .ok (.iload 4, 2) := by decide +kernel
theorem dX11_handFrom_99 : decode cX11_handFrom 99 = .ok (.if_icmp .ge 114, 3) := by decide +kernel
theorem dX11_handFrom_102 : decode cX11_handFrom 102 = .ok (.aload_n 0, 1) := by decide +kernel
theorem dX11_handFrom_103 : decode cX11_handFrom 103 = .ok (.getfield 26, 3) := by decide +kernel
theorem dX11_handFrom_106 : decode cX11_handFrom 106 = .ok (.bipush 40, 2) := by decide +kernel
theorem dX11_handFrom_108 : decode cX11_handFrom 108 = .ok (.iload_n 1, 1) := by decide +kernel
theorem dX11_handFrom_109 : decode cX11_handFrom 109 = .ok (.imul, 1) := by decide +kernel
theorem dX11_handFrom_110 : decode cX11_handFrom 110 = .ok (.iload_n 3, 1) := by decide +kernel
theorem dX11_handFrom_111 : decode cX11_handFrom 111 = .ok (.iadd, 1) := by decide +kernel
theorem dX11_handFrom_112 : decode cX11_handFrom 112 = .ok (.iload 6, 2) := by decide +kernel
theorem dX11_handFrom_114 : decode cX11_handFrom 114 = .ok (.iadd, 1) := by decide +kernel
theorem dX11_handFrom_115 : decode cX11_handFrom 115 = .ok (.iaload, 1) := by decide +kernel
theorem dX11_handFrom_116 : decode cX11_handFrom 116 = .ok (.istore 7, 2) := by decide +kernel
theorem dX11_handFrom_118 : decode cX11_handFrom 118 = .ok (.iload 7, 2) := by decide +kernel
theorem dX11_handFrom_120 : decode cX11_handFrom 120 = .ok (.aload_n 0, 1) := by decide +kernel
theorem dX11_handFrom_121 : decode cX11_handFrom 121 = .ok (.getfield 9, 3) := by decide +kernel
theorem dX11_handFrom_124 : decode cX11_handFrom 124 = .ok (.bipush 55, 2) := by decide +kernel
theorem dX11_handFrom_126 : decode cX11_handFrom 126 = .ok (.iload 6, 2) := by decide +kernel
theorem dX11_handFrom_128 : decode cX11_handFrom 128 = .ok (.iadd, 1) := by decide +kernel
theorem dX11_handFrom_129 : decode cX11_handFrom 129 = .ok (.iaload, 1) := by decide +kernel
theorem dX11_handFrom_130 : decode cX11_handFrom 130 = .ok (.if_icmp .ge 16, 3) := by decide +kernel
theorem dX11_handFrom_133 : decode cX11_handFrom 133 = .ok (.aload_n 0, 1) := by decide +kernel
theorem dX11_handFrom_134 : decode cX11_handFrom 134 = .ok (.getfield 9, 3) := by decide +kernel
theorem dX11_handFrom_137 : decode cX11_handFrom 137 = .ok (.bipush 55, 2) := by decide +kernel
theorem dX11_handFrom_139 : decode cX11_handFrom 139 = .ok (.iload 6, 2) := by decide +kernel
theorem dX11_handFrom_141 : decode cX11_handFrom 141 = .ok (.iadd, 1) := by decide +kernel
theorem dX11_handFrom_142 : decode cX11_handFrom 142 = .ok (.iaload, 1) := by decide +kernel
theorem dX11_handFrom_143 : decode cX11_handFrom 143 = .ok (.goto 33, 3) := by decide +kernel
theorem dX11_handFrom_146 : decode cX11_handFrom 146 = .ok (.iload 7, 2) := by decide +kernel
theorem dX11_handFrom_148 : decode cX11_handFrom 148 = .ok (.aload_n 0, 1) := by decide +kernel
theorem dX11_handFrom_149 : decode cX11_handFrom 149 = .ok (.getfield 9, 3) := by decide +kernel
theorem dX11_handFrom_152 : decode cX11_handFrom 152 = .ok (.bipush 65, 2) := by decide +kernel
theorem dX11_handFrom_154 : decode cX11_handFrom 154 = .ok (.iload 6, 2) := by decide +kernel
theorem dX11_handFrom_156 : decode cX11_handFrom 156 = .ok (.iadd, 1) := by decide +kernel
theorem dX11_handFrom_157 : decode cX11_handFrom 157 = .ok (.iaload, 1) := by decide +kernel
theorem dX11_handFrom_158 : decode cX11_handFrom 158 = .ok (.if_icmp .le 16, 3) := by decide +kernel
theorem dX11_handFrom_161 : decode cX11_handFrom 161 = .ok (.aload_n 0, 1) := by decide +kernel
theorem dX11_handFrom_162 : decode cX11_handFrom 162 = .ok (.getfield 9, 3) := by decide +kernel
theorem dX11_handFrom_165 : decode cX11_handFrom 165 = .ok (.bipush 65, 2) := by decide +kernel
theorem dX11_handFrom_167 : decode cX11_handFrom 167 = .ok (.iload 6, 2) := by decide +kernel
theorem dX11_handFrom_169 : decode cX11_handFrom 169 = .ok (.iadd, 1) := by decide +kernel
theorem dX11_handFrom_170 : decode cX11_handFrom 170 = .ok (.iaload, 1) := by decide +kernel
theorem dX11_handFrom_171 : decode cX11_handFrom 171 = .ok (.goto 5, 3) := by decide +kernel
theorem dX11_handFrom_174 : decode cX11_handFrom 174 = .ok (.iload 7, 2) := by decide +kernel
theorem dX11_handFrom_176 : decode cX11_handFrom 176 = .ok (.istore 8, 2) := by decide +kernel
theorem dX11_handFrom_178 : decode cX11_handFrom 178 = .ok (.iload 5, 2) := by decide +kernel
theorem dX11_handFrom_180 : decode cX11_handFrom 180 = .ok (.iload 8, 2) := by decide +kernel
theorem dX11_handFrom_182 : decode cX11_handFrom 182 = .ok (.iload 7, 2) := by decide +kernel
theorem dX11_handFrom_184 : decode cX11_handFrom 184 = .ok (.if_icmp .ne 7, 3) := by decide +kernel
theorem dX11_handFrom_187 : decode cX11_handFrom 187 = .ok (.iconst 0, 1) := by decide +kernel
theorem dX11_handFrom_188 : decode cX11_handFrom 188 = .ok (.goto 4, 3) := by decide +kernel
theorem dX11_handFrom_191 : decode cX11_handFrom 191 = .ok (.iconst 1, 1) := by decide +kernel
theorem dX11_handFrom_192 : decode cX11_handFrom 192 = .ok (.iadd, 1) := by decide +kernel
theorem dX11_handFrom_193 : decode cX11_handFrom 193 = .ok (.istore 5, 2) := by decide +kernel
theorem dX11_handFrom_195 : decode cX11_handFrom 195 = .ok (.aload_n 0, 1) := by decide +kernel
theorem dX11_handFrom_196 : decode cX11_handFrom 196 = .ok (.getfield 9, 3) := by decide +kernel
theorem dX11_handFrom_199 : decode cX11_handFrom 199 = .ok (.bipush 75, 2) := by decide +kernel
theorem dX11_handFrom_201 : decode cX11_handFrom 201 = .ok (.iload 6, 2) := by decide +kernel
theorem dX11_handFrom_203 : decode cX11_handFrom 203 = .ok (.iadd, 1) := by decide +kernel
theorem dX11_handFrom_204 : decode cX11_handFrom 204 = .ok (.iload 8, 2) := by decide +kernel
theorem dX11_handFrom_206 : decode cX11_handFrom 206 = .ok (.iastore, 1) := by decide +kernel
theorem dX11_handFrom_207 : decode cX11_handFrom 207 = .ok (.iinc 6 1, 3) := by decide +kernel
theorem dX11_handFrom_210 : decode cX11_handFrom 210 = .ok (.goto (-115), 3) := by decide +kernel
theorem dX11_handFrom_213 : decode cX11_handFrom 213 = .ok (.iload 5, 2) := by decide +kernel
theorem dX11_handFrom_215 : decode cX11_handFrom 215 = .ok (.ireturn, 1) := by decide +kernel
theorem dX11_keep_0 : decode cX11_keep 0 = .ok (.iconst 0, 1) := by decide +kernel
theorem dX11_keep_1 : decode cX11_keep 1 = .ok (.istore_n 1, 1) := by decide +kernel
theorem dX11_keep_2 : decode cX11_keep 2 = .ok (.iload_n 1, 1) := by decide +kernel
theorem dX11_keep_3 : decode cX11_keep 3 = .ok (.sipush 194, 3) := by decide +kernel
theorem dX11_keep_6 : decode cX11_keep 6 = .ok (.if_icmp .ge 21, 3) := by decide +kernel
theorem dX11_keep_9 : decode cX11_keep 9 = .ok (.aload_n 0, 1) := by decide +kernel
theorem dX11_keep_10 : decode cX11_keep 10 = .ok (.getfield 13, 3) := by decide +kernel
theorem dX11_keep_13 : decode cX11_keep 13 = .ok (.iload_n 1, 1) := by decide +kernel
theorem dX11_keep_14 : decode cX11_keep 14 = .ok (.aload_n 0, 1) := by decide +kernel
theorem dX11_keep_15 : decode cX11_keep 15 = .ok (.getfield 9, 3) := by decide +kernel
theorem dX11_keep_18 : decode cX11_keep 18 = .ok (.iload_n 1, 1) := by decide +kernel
theorem dX11_keep_19 : decode cX11_keep 19 = .ok (.iaload, 1) := by decide +kernel
theorem dX11_keep_20 : decode cX11_keep 20 = .ok (.iastore, 1) := by decide +kernel
theorem dX11_keep_21 : decode cX11_keep 21 = .ok (.iinc 1 1, 3) := by decide +kernel
theorem dX11_keep_24 : decode cX11_keep 24 = .ok (.goto (-22), 3) := by decide +kernel
theorem dX11_keep_27 : decode cX11_keep 27 = .ok (.aload_n 0, 1) := by decide +kernel
theorem dX11_keep_28 : decode cX11_keep 28 = .ok (.iconst 1, 1) := by decide +kernel
theorem dX11_keep_29 : decode cX11_keep 29 = .ok (.putfield 182, 3) := by decide +kernel
theorem dX11_keep_32 : decode cX11_keep 32 = .ok (.aload_n 0, 1) := by decide +kernel
theorem dX11_keep_33 : decode cX11_keep 33 = .ok (.getfield 9, 3) := by decide +kernel
theorem dX11_keep_36 : decode cX11_keep 36 = .ok (.iconst 0, 1) := by decide +kernel
theorem dX11_keep_37 : decode cX11_keep 37 = .ok (.iaload, 1) := by decide +kernel
theorem dX11_keep_38 : decode cX11_keep 38 = .ok (.ireturn, 1) := by decide +kernel
set_option maxRecDepth 20000 in
theorem ggX11_back_X11_found : GoodIn wsX11_back wsX11_found := goodIn_r _ [9, 10, 11, 12, 13, 14, 15, 16, 17, 18, 19, 20, 21, 22, 23, 24, 25, 26, 27, 28, 29] (by decide +kernel) (by decide +kernel)
set_option maxRecDepth 20000 in
theorem gX11_back_X11_found : GoodIn wsX11_back (wsV RX11 60 RX11 yX11_found wsX11_found) := goodIn_app (goodIn_of _ (by decide +kernel)) ggX11_back_X11_found
theorem dX11_back_0 : decode cX11_back 0 = .ok (.aload_n 0, 1) := by decide +kernel
theorem dX11_back_1 : decode cX11_back 1 = .ok (.getfield 182, 3) := by decide +kernel
theorem dX11_back_4 : decode cX11_back 4 = .ok (.ifCond .ne 10, 3) := by decide +kernel
theorem dX11_back_7 : decode cX11_back 7 = .ok (.aload_n 0, 1) := by decide +kernel
theorem dX11_back_8 : decode cX11_back 8 = .ok (.ldc 64, 2) := by decide +kernel
theorem dX11_back_10 : decode cX11_back 10 = .ok (.invokevirtual 60, 3) := by decide +kernel
theorem dX11_back_13 : decode cX11_back 13 = .ok (.ireturn, 1) := by decide +kernel
theorem dX11_back_14 : decode cX11_back 14 = .ok (.iconst 0, 1) := by decide +kernel
theorem dX11_back_15 : decode cX11_back 15 = .ok (.istore_n 1, 1) := by decide +kernel
theorem dX11_back_16 : decode cX11_back 16 = .ok (.iload_n 1, 1) := by decide +kernel
theorem dX11_back_17 : decode cX11_back 17 = .ok (.sipush 194, 3) := by decide +kernel
theorem dX11_back_20 : decode cX11_back 20 = .ok (.if_icmp .ge 21, 3) := by decide +kernel
theorem dX11_back_23 : decode cX11_back 23 = .ok (.aload_n 0, 1) := by decide +kernel
theorem dX11_back_24 : decode cX11_back 24 = .ok (.getfield 9, 3) := by decide +kernel
theorem dX11_back_27 : decode cX11_back 27 = .ok (.iload_n 1, 1) := by decide +kernel
theorem dX11_back_28 : decode cX11_back 28 = .ok (.aload_n 0, 1) := by decide +kernel
theorem dX11_back_29 : decode cX11_back 29 = .ok (.getfield 13, 3) := by decide +kernel
theorem dX11_back_32 : decode cX11_back 32 = .ok (.iload_n 1, 1) := by decide +kernel
theorem dX11_back_33 : decode cX11_back 33 = .ok (.iaload, 1) := by decide +kernel
theorem dX11_back_34 : decode cX11_back 34 = .ok (.iastore, 1) := by decide +kernel
theorem dX11_back_35 : decode cX11_back 35 = .ok (.iinc 1 1, 3) := by decide +kernel
theorem dX11_back_38 : decode cX11_back 38 = .ok (.goto (-22), 3) := by decide +kernel
theorem dX11_back_41 : decode cX11_back 41 = .ok (.aload_n 0, 1) := by decide +kernel
theorem dX11_back_42 : decode cX11_back 42 = .ok (.getfield 9, 3) := by decide +kernel
theorem dX11_back_45 : decode cX11_back 45 = .ok (.iconst 0, 1) := by decide +kernel
theorem dX11_back_46 : decode cX11_back 46 = .ok (.iaload, 1) := by decide +kernel
theorem dX11_back_47 : decode cX11_back 47 = .ok (.ireturn, 1) := by decide +kernel
theorem dX11_count_0 : decode cX11_count 0 = .ok (.iconst 0, 1) := by decide +kernel
theorem dX11_count_1 : decode cX11_count 1 = .ok (.istore_n 2, 1) := by decide +kernel
theorem dX11_count_2 : decode cX11_count 2 = .ok (.iconst 0, 1) := by decide +kernel
theorem dX11_count_3 : decode cX11_count 3 = .ok (.istore_n 3, 1) := by decide +kernel
theorem dX11_count_4 : decode cX11_count 4 = .ok (.iload_n 3, 1) := by decide +kernel
theorem dX11_count_5 : decode cX11_count 5 = .ok (.aload_n 0, 1) := by decide +kernel
theorem dX11_count_6 : decode cX11_count 6 = .ok (.getfield 9, 3) := by decide +kernel
theorem dX11_count_9 : decode cX11_count 9 = .ok (.iconst 2, 1) := by decide +kernel
theorem dX11_count_10 : decode cX11_count 10 = .ok (.iaload, 1) := by decide +kernel
theorem dX11_count_11 : decode cX11_count 11 = .ok (.if_icmp .ge 22, 3) := by decide +kernel
theorem dX11_count_14 : decode cX11_count 14 = .ok (.iload_n 2, 1) := by decide +kernel
theorem dX11_count_15 : decode cX11_count 15 = .ok (.aload_n 0, 1) := by decide +kernel
theorem dX11_count_16 : decode cX11_count 16 = .ok (.getfield 9, 3) := by decide +kernel
theorem dX11_count_19 : decode cX11_count 19 = .ok (.sipush 133, 3) := by decide +kernel
theorem dX11_count_22 : decode cX11_count 22 = .ok (.iload_n 3, 1) := by decide +kernel
theorem dX11_count_23 : decode cX11_count 23 = .ok (.iadd, 1) := by decide +kernel
theorem dX11_count_24 : decode cX11_count 24 = .ok (.iaload, 1) := by decide +kernel
theorem dX11_count_25 : decode cX11_count 25 = .ok (.iadd, 1) := by decide +kernel
theorem dX11_count_26 : decode cX11_count 26 = .ok (.istore_n 2, 1) := by decide +kernel
theorem dX11_count_27 : decode cX11_count 27 = .ok (.iinc 3 1, 3) := by decide +kernel
theorem dX11_count_30 : decode cX11_count 30 = .ok (.goto (-26), 3) := by decide +kernel
theorem dX11_count_33 : decode cX11_count 33 = .ok (.iload_n 1, 1) := by decide +kernel
theorem dX11_count_34 : decode cX11_count 34 = .ok (.tableswitch 84 0 6 #[42, 49, 56, 63, 65, 72, 79], 42) := by decide +kernel
theorem dX11_count_76 : decode cX11_count 76 = .ok (.aload_n 0, 1) := by decide +kernel
theorem dX11_count_77 : decode cX11_count 77 = .ok (.getfield 9, 3) := by decide +kernel
theorem dX11_count_80 : decode cX11_count 80 = .ok (.iconst 0, 1) := by decide +kernel
theorem dX11_count_81 : decode cX11_count 81 = .ok (.iaload, 1) := by decide +kernel
theorem dX11_count_82 : decode cX11_count 82 = .ok (.ireturn, 1) := by decide +kernel
theorem dX11_count_83 : decode cX11_count 83 = .ok (.aload_n 0, 1) := by decide +kernel
theorem dX11_count_84 : decode cX11_count 84 = .ok (.getfield 9, 3) := by decide +kernel
theorem dX11_count_87 : decode cX11_count 87 = .ok (.iconst 1, 1) := by decide +kernel
theorem dX11_count_88 : decode cX11_count 88 = .ok (.iaload, 1) := by decide +kernel
theorem dX11_count_89 : decode cX11_count 89 = .ok (.ireturn, 1) := by decide +kernel
theorem dX11_count_90 : decode cX11_count 90 = .ok (.aload_n 0, 1) := by decide +kernel
theorem dX11_count_91 : decode cX11_count 91 = .ok (.getfield 9, 3) := by decide +kernel
theorem dX11_count_94 : decode cX11_count 94 = .ok (.iconst 2, 1) := by decide +kernel
theorem dX11_count_95 : decode cX11_count 95 = .ok (.iaload, 1) := by decide +kernel
theorem dX11_count_96 : decode cX11_count 96 = .ok (.ireturn, 1) := by decide +kernel
theorem dX11_count_97 : decode cX11_count 97 = .ok (.iload_n 2, 1) := by decide +kernel
theorem dX11_count_98 : decode cX11_count 98 = .ok (.ireturn, 1) := by decide +kernel
theorem dX11_count_99 : decode cX11_count 99 = .ok (.aload_n 0, 1) := by decide +kernel
theorem dX11_count_100 : decode cX11_count 100 = .ok (.getfield 9, 3) := by decide +kernel
theorem dX11_count_103 : decode cX11_count 103 = .ok (.iconst 3, 1) := by decide +kernel
theorem dX11_count_104 : decode cX11_count 104 = .ok (.iaload, 1) := by decide +kernel
theorem dX11_count_105 : decode cX11_count 105 = .ok (.ireturn, 1) := by decide +kernel
theorem dX11_count_106 : decode cX11_count 106 = .ok (.aload_n 0, 1) := by decide +kernel
theorem dX11_count_107 : decode cX11_count 107 = .ok (.getfield 9, 3) := by decide +kernel
theorem dX11_count_110 : decode cX11_count 110 = .ok (.iconst 4, 1) := by decide +kernel
theorem dX11_count_111 : decode cX11_count 111 = .ok (.iaload, 1) := by decide +kernel
theorem dX11_count_112 : decode cX11_count 112 = .ok (.ireturn, 1) := by decide +kernel
theorem dX11_count_113 : decode cX11_count 113 = .ok (.aload_n 0, 1) := by decide +kernel
theorem dX11_count_114 : decode cX11_count 114 = .ok (.getfield 44, 3) := by decide +kernel
theorem dX11_count_117 : decode cX11_count 117 = .ok (.ireturn, 1) := by decide +kernel
theorem dX11_count_118 : decode cX11_count 118 = .ok (.ldc 55, 2) := by decide +kernel
theorem dX11_count_120 : decode cX11_count 120 = .ok (.ireturn, 1) := by decide +kernel
theorem dJ6_bitCount_0f7a4_0 : decode cJ6_bitCount_0f7a4 0 = .ok (.iload_n 0, 1) := by decide +kernel
theorem dJ6_bitCount_0f7a4_1 : decode cJ6_bitCount_0f7a4 1 = .ok (.iload_n 0, 1) := by decide +kernel
theorem dJ6_bitCount_0f7a4_2 : decode cJ6_bitCount_0f7a4 2 = .ok (.iconst 1, 1) := by decide +kernel
theorem dJ6_bitCount_0f7a4_3 : decode cJ6_bitCount_0f7a4 3 = .ok (.iushr, 1) := by decide +kernel
theorem dJ6_bitCount_0f7a4_4 : decode cJ6_bitCount_0f7a4 4 = .ok (.ldc_w 265, 3) := by decide +kernel
theorem dJ6_bitCount_0f7a4_7 : decode cJ6_bitCount_0f7a4 7 = .ok (.iand, 1) := by decide +kernel
theorem dJ6_bitCount_0f7a4_8 : decode cJ6_bitCount_0f7a4 8 = .ok (.isub, 1) := by decide +kernel
theorem dJ6_bitCount_0f7a4_9 : decode cJ6_bitCount_0f7a4 9 = .ok (.istore_n 0, 1) := by decide +kernel
theorem dJ6_bitCount_0f7a4_10 : decode cJ6_bitCount_0f7a4 10 = .ok (.iload_n 0, 1) := by decide +kernel
theorem dJ6_bitCount_0f7a4_11 : decode cJ6_bitCount_0f7a4 11 = .ok (.ldc_w 266, 3) := by decide +kernel
theorem dJ6_bitCount_0f7a4_14 : decode cJ6_bitCount_0f7a4 14 = .ok (.iand, 1) := by decide +kernel
theorem dJ6_bitCount_0f7a4_15 : decode cJ6_bitCount_0f7a4 15 = .ok (.iload_n 0, 1) := by decide +kernel
theorem dJ6_bitCount_0f7a4_16 : decode cJ6_bitCount_0f7a4 16 = .ok (.iconst 2, 1) := by decide +kernel
theorem dJ6_bitCount_0f7a4_17 : decode cJ6_bitCount_0f7a4 17 = .ok (.iushr, 1) := by decide +kernel
theorem dJ6_bitCount_0f7a4_18 : decode cJ6_bitCount_0f7a4 18 = .ok (.ldc_w 266, 3) := by decide +kernel
theorem dJ6_bitCount_0f7a4_21 : decode cJ6_bitCount_0f7a4 21 = .ok (.iand, 1) := by decide +kernel
theorem dJ6_bitCount_0f7a4_22 : decode cJ6_bitCount_0f7a4 22 = .ok (.iadd, 1) := by decide +kernel
theorem dJ6_bitCount_0f7a4_23 : decode cJ6_bitCount_0f7a4 23 = .ok (.istore_n 0, 1) := by decide +kernel
theorem dJ6_bitCount_0f7a4_24 : decode cJ6_bitCount_0f7a4 24 = .ok (.iload_n 0, 1) := by decide +kernel
theorem dJ6_bitCount_0f7a4_25 : decode cJ6_bitCount_0f7a4 25 = .ok (.iload_n 0, 1) := by decide +kernel
theorem dJ6_bitCount_0f7a4_26 : decode cJ6_bitCount_0f7a4 26 = .ok (.iconst 4, 1) := by decide +kernel
theorem dJ6_bitCount_0f7a4_27 : decode cJ6_bitCount_0f7a4 27 = .ok (.iushr, 1) := by decide +kernel
theorem dJ6_bitCount_0f7a4_28 : decode cJ6_bitCount_0f7a4 28 = .ok (.iadd, 1) := by decide +kernel
theorem dJ6_bitCount_0f7a4_29 : decode cJ6_bitCount_0f7a4 29 = .ok (.ldc_w 267, 3) := by decide +kernel
theorem dJ6_bitCount_0f7a4_32 : decode cJ6_bitCount_0f7a4 32 = .ok (.iand, 1) := by decide +kernel
theorem dJ6_bitCount_0f7a4_33 : decode cJ6_bitCount_0f7a4 33 = .ok (.istore_n 0, 1) := by decide +kernel
theorem dJ6_bitCount_0f7a4_34 : decode cJ6_bitCount_0f7a4 34 = .ok (.iload_n 0, 1) := by decide +kernel
theorem dJ6_bitCount_0f7a4_35 : decode cJ6_bitCount_0f7a4 35 = .ok (.iload_n 0, 1) := by decide +kernel
theorem dJ6_bitCount_0f7a4_36 : decode cJ6_bitCount_0f7a4 36 = .ok (.bipush 8, 2) := by decide +kernel
theorem dJ6_bitCount_0f7a4_38 : decode cJ6_bitCount_0f7a4 38 = .ok (.iushr, 1) := by decide +kernel
theorem dJ6_bitCount_0f7a4_39 : decode cJ6_bitCount_0f7a4 39 = .ok (.iadd, 1) := by decide +kernel
theorem dJ6_bitCount_0f7a4_40 : decode cJ6_bitCount_0f7a4 40 = .ok (.istore_n 0, 1) := by decide +kernel
theorem dJ6_bitCount_0f7a4_41 : decode cJ6_bitCount_0f7a4 41 = .ok (.iload_n 0, 1) := by decide +kernel
theorem dJ6_bitCount_0f7a4_42 : decode cJ6_bitCount_0f7a4 42 = .ok (.iload_n 0, 1) := by decide +kernel
theorem dJ6_bitCount_0f7a4_43 : decode cJ6_bitCount_0f7a4 43 = .ok (.bipush 16, 2) := by decide +kernel
theorem dJ6_bitCount_0f7a4_45 : decode cJ6_bitCount_0f7a4 45 = .ok (.iushr, 1) := by decide +kernel
theorem dJ6_bitCount_0f7a4_46 : decode cJ6_bitCount_0f7a4 46 = .ok (.iadd, 1) := by decide +kernel
theorem dJ6_bitCount_0f7a4_47 : decode cJ6_bitCount_0f7a4 47 = .ok (.istore_n 0, 1) := by decide +kernel
theorem dJ6_bitCount_0f7a4_48 : decode cJ6_bitCount_0f7a4 48 = .ok (.iload_n 0, 1) := by decide +kernel
theorem dJ6_bitCount_0f7a4_49 : decode cJ6_bitCount_0f7a4 49 = .ok (.bipush 63, 2) := by decide +kernel
theorem dJ6_bitCount_0f7a4_51 : decode cJ6_bitCount_0f7a4 51 = .ok (.iand, 1) := by decide +kernel
theorem dJ6_bitCount_0f7a4_52 : decode cJ6_bitCount_0f7a4 52 = .ok (.ireturn, 1) := by decide +kernel
theorem dJ9_abs_067f4_0 : decode cJ9_abs_067f4 0 = .ok (.lload_n 0, 1) := by decide +kernel
theorem dJ9_abs_067f4_1 : decode cJ9_abs_067f4 1 = .ok (.lconst 0, 1) := by decide +kernel
theorem dJ9_abs_067f4_2 : decode cJ9_abs_067f4 2 = .ok (.lcmp, 1) := by decide +kernel
theorem dJ9_abs_067f4_3 : decode cJ9_abs_067f4 3 = .ok (.ifCond .ge 8, 3) := by decide +kernel
theorem dJ9_abs_067f4_6 : decode cJ9_abs_067f4 6 = .ok (.lload_n 0, 1) := by decide +kernel
theorem dJ9_abs_067f4_7 : decode cJ9_abs_067f4 7 = .ok (.lneg, 1) := by decide +kernel
theorem dJ9_abs_067f4_8 : decode cJ9_abs_067f4 8 = .ok (.goto 4, 3) := by decide +kernel
theorem dJ9_abs_067f4_11 : decode cJ9_abs_067f4 11 = .ok (.lload_n 0, 1) := by decide +kernel
theorem dJ9_abs_067f4_12 : decode cJ9_abs_067f4 12 = .ok (.lreturn, 1) := by decide +kernel
theorem dJ9_max_7cf53_0 : decode cJ9_max_7cf53 0 = .ok (.iload_n 0, 1) := by decide +kernel
theorem dJ9_max_7cf53_1 : decode cJ9_max_7cf53 1 = .ok (.iload_n 1, 1) := by decide +kernel
theorem dJ9_max_7cf53_2 : decode cJ9_max_7cf53 2 = .ok (.if_icmp .lt 7, 3) := by decide +kernel
theorem dJ9_max_7cf53_5 : decode cJ9_max_7cf53 5 = .ok (.iload_n 0, 1) := by decide +kernel
theorem dJ9_max_7cf53_6 : decode cJ9_max_7cf53 6 = .ok (.goto 4, 3) := by decide +kernel
theorem dJ9_max_7cf53_9 : decode cJ9_max_7cf53 9 = .ok (.iload_n 1, 1) := by decide +kernel
theorem dJ9_max_7cf53_10 : decode cJ9_max_7cf53 10 = .ok (.ireturn, 1) := by decide +kernel
theorem dJ9_max_f86c9_0 : decode cJ9_max_f86c9 0 = .ok (.lload_n 0, 1) := by decide +kernel
theorem dJ9_max_f86c9_1 : decode cJ9_max_f86c9 1 = .ok (.lload_n 2, 1) := by decide +kernel
theorem dJ9_max_f86c9_2 : decode cJ9_max_f86c9 2 = .ok (.lcmp, 1) := by decide +kernel
theorem dJ9_max_f86c9_3 : decode cJ9_max_f86c9 3 = .ok (.ifCond .lt 7, 3) := by decide +kernel
theorem dJ9_max_f86c9_6 : decode cJ9_max_f86c9 6 = .ok (.lload_n 0, 1) := by decide +kernel
theorem dJ9_max_f86c9_7 : decode cJ9_max_f86c9 7 = .ok (.goto 4, 3) := by decide +kernel
theorem dJ9_max_f86c9_10 : decode cJ9_max_f86c9 10 = .ok (.lload_n 2, 1) := by decide +kernel
theorem dJ9_max_f86c9_11 : decode cJ9_max_f86c9 11 = .ok (.lreturn, 1) := by decide +kernel
theorem dJ9_min_7cf53_0 : decode cJ9_min_7cf53 0 = .ok (.iload_n 0, 1) := by decide +kernel
theorem dJ9_min_7cf53_1 : decode cJ9_min_7cf53 1 = .ok (.iload_n 1, 1) := by decide +kernel
theorem dJ9_min_7cf53_2 : decode cJ9_min_7cf53 2 = .ok (.if_icmp .gt 7, 3) := by decide +kernel
theorem dJ9_min_7cf53_5 : decode cJ9_min_7cf53 5 = .ok (.iload_n 0, 1) := by decide +kernel
theorem dJ9_min_7cf53_6 : decode cJ9_min_7cf53 6 = .ok (.goto 4, 3) := by decide +kernel
theorem dJ9_min_7cf53_9 : decode cJ9_min_7cf53 9 = .ok (.iload_n 1, 1) := by decide +kernel
theorem dJ9_min_7cf53_10 : decode cJ9_min_7cf53 10 = .ok (.ireturn, 1) := by decide +kernel
theorem dJ7_fill_d0a16_0 : decode cJ7_fill_d0a16 0 = .ok (.iconst 0, 1) := by decide +kernel
theorem dJ7_fill_d0a16_1 : decode cJ7_fill_d0a16 1 = .ok (.istore_n 3, 1) := by decide +kernel
theorem dJ7_fill_d0a16_2 : decode cJ7_fill_d0a16 2 = .ok (.aload_n 0, 1) := by decide +kernel
theorem dJ7_fill_d0a16_3 : decode cJ7_fill_d0a16 3 = .ok (.arraylength, 1) := by decide +kernel
theorem dJ7_fill_d0a16_4 : decode cJ7_fill_d0a16 4 = .ok (.istore 4, 2) := by decide +kernel
theorem dJ7_fill_d0a16_6 : decode cJ7_fill_d0a16 6 = .ok (.iload_n 3, 1) := by decide +kernel
theorem dJ7_fill_d0a16_7 : decode cJ7_fill_d0a16 7 = .ok (.iload 4, 2) := by decide +kernel
theorem dJ7_fill_d0a16_9 : decode cJ7_fill_d0a16 9 = .ok (.if_icmp .ge 13, 3) := by decide +kernel
theorem dJ7_fill_d0a16_12 : decode cJ7_fill_d0a16 12 = .ok (.aload_n 0, 1) := by decide +kernel
theorem dJ7_fill_d0a16_13 : decode cJ7_fill_d0a16 13 = .ok (.iload_n 3, 1) := by decide +kernel
theorem dJ7_fill_d0a16_14 : decode cJ7_fill_d0a16 14 = .ok (.lload_n 1, 1) := by decide +kernel
theorem dJ7_fill_d0a16_15 : decode cJ7_fill_d0a16 15 = .ok (.lastore, 1) := by decide +kernel
theorem dJ7_fill_d0a16_16 : decode cJ7_fill_d0a16 16 = .ok (.iinc 3 1, 3) := by decide +kernel
theorem dJ7_fill_d0a16_19 : decode cJ7_fill_d0a16 19 = .ok (.goto (-13), 3) := by decide +kernel
theorem dJ7_fill_d0a16_22 : decode cJ7_fill_d0a16 22 = .ok (.return_, 1) := by decide +kernel
theorem dJ7_fill_53178_0 : decode cJ7_fill_53178 0 = .ok (.iconst 0, 1) := by decide +kernel
theorem dJ7_fill_53178_1 : decode cJ7_fill_53178 1 = .ok (.istore_n 2, 1) := by decide +kernel
theorem dJ7_fill_53178_2 : decode cJ7_fill_53178 2 = .ok (.aload_n 0, 1) := by decide +kernel
theorem dJ7_fill_53178_3 : decode cJ7_fill_53178 3 = .ok (.arraylength, 1) := by decide +kernel
theorem dJ7_fill_53178_4 : decode cJ7_fill_53178 4 = .ok (.istore_n 3, 1) := by decide +kernel
theorem dJ7_fill_53178_5 : decode cJ7_fill_53178 5 = .ok (.iload_n 2, 1) := by decide +kernel
theorem dJ7_fill_53178_6 : decode cJ7_fill_53178 6 = .ok (.iload_n 3, 1) := by decide +kernel
theorem dJ7_fill_53178_7 : decode cJ7_fill_53178 7 = .ok (.if_icmp .ge 13, 3) := by decide +kernel
theorem dJ7_fill_53178_10 : decode cJ7_fill_53178 10 = .ok (.aload_n 0, 1) := by decide +kernel
theorem dJ7_fill_53178_11 : decode cJ7_fill_53178 11 = .ok (.iload_n 2, 1) := by decide +kernel
theorem dJ7_fill_53178_12 : decode cJ7_fill_53178 12 = .ok (.iload_n 1, 1) := by decide +kernel
theorem dJ7_fill_53178_13 : decode cJ7_fill_53178 13 = .ok (.iastore, 1) := by decide +kernel
theorem dJ7_fill_53178_14 : decode cJ7_fill_53178 14 = .ok (.iinc 2 1, 3) := by decide +kernel
theorem dJ7_fill_53178_17 : decode cJ7_fill_53178 17 = .ok (.goto (-12), 3) := by decide +kernel
theorem dJ7_fill_53178_20 : decode cJ7_fill_53178 20 = .ok (.return_, 1) := by decide +kernel
set_option maxRecDepth 20000 in
theorem ggL_law_X10_init : GoodIn wsL_law wsX10_init := goodIn_r _ [8, 9, 10, 11, 12, 13, 14, 15, 16, 17, 18, 19, 20, 21, 22, 23, 24, 25, 26, 27, 28, 29, 30, 31, 32, 33, 34, 35, 36, 37, 38, 39, 40, 41, 42, 43, 44, 45, 46, 47, 48, 49, 50, 51, 52, 53, 54, 55, 56, 57, 58, 59, 60, 61, 62, 63, 64, 65, 66, 67, 68, 69, 70, 71, 72, 73, 74, 75, 76, 77, 78, 79, 80, 81, 82, 83, 84, 85, 86, 87, 88, 89, 90, 91, 92, 93, 94, 95, 96, 97, 98, 99, 100, 101, 102, 103, 104, 105, 106, 107, 108, 109, 110, 111, 112, 113, 114, 115, 116, 910, 911, 912, 913, 881, 882, 883, 884, 885, 886, 887, 888, 889, 890, 914, 915, 916, 917, 918, 919, 920, 921, 922, 923, 924, 925, 926, 927, 928, 929, 930, 931, 932, 933, 934, 935, 936, 937, 938, 939, 940, 941, 942, 943, 944, 945, 946, 947, 948, 949, 950, 951, 952, 953, 954, 955, 956, 957] (by decide +kernel) (by decide +kernel)
set_option maxRecDepth 20000 in
theorem gL_law_X10_init : GoodIn wsL_law (wsX10_init) := ggL_law_X10_init
set_option maxRecDepth 20000 in
theorem ggL_law_X11_init : GoodIn wsL_law wsX11_init := goodIn_r _ [119, 120, 10, 11, 61, 121, 122, 123, 124, 125, 126, 99, 127, 128, 129, 130, 131, 132, 891, 892, 893, 894, 895, 896, 897, 898, 899, 900, 901, 902, 903, 904, 905, 906, 907, 908, 909] (by decide +kernel) (by decide +kernel)
set_option maxRecDepth 20000 in
theorem gL_law_X11_init : GoodIn wsL_law (wsX11_init) := ggL_law_X11_init
set_option maxRecDepth 20000 in
theorem ggL_law_X10_target : GoodIn wsL_law wsX10_target := goodIn_r _ [136, 15, 137, 138, 139, 140, 141, 2, 142, 143, 144, 145, 146, 147, 148, 149, 150, 151, 43, 152, 153, 62, 63, 64, 65, 66, 67, 68, 69, 881, 882, 883, 884, 885, 886, 887, 888, 889, 890, 910, 911, 912, 913, 936, 937, 938, 939, 940, 941, 942, 943, 944, 945] (by decide +kernel) (by decide +kernel)
set_option maxRecDepth 20000 in
theorem gL_law_X10_target : GoodIn wsL_law (wsV RL 13 RX10 yX10_target wsX10_target) := goodIn_app (goodIn_of _ (by decide +kernel)) ggL_law_X10_target
set_option maxRecDepth 20000 in
theorem ggL_law_X11_target : GoodIn wsL_law wsX11_target := goodIn_r _ [157, 121, 158, 159, 160, 5, 161, 162, 163, 164, 891, 892, 893, 894, 895, 896, 897, 898, 899, 900, 901, 902, 903, 904, 905, 906, 907, 908, 909] (by decide +kernel) (by decide +kernel)
set_option maxRecDepth 20000 in
theorem gL_law_X11_target : GoodIn wsL_law (wsV RL 17 RX11 yX11_target wsX11_target) := goodIn_app (goodIn_of _ (by decide +kernel)) ggL_law_X11_target
set_option maxRecDepth 20000 in
theorem ggL_law_X10_bounds : GoodIn wsL_law wsX10_bounds := goodIn_r _ [168, 15, 137, 139, 169, 170, 171, 172, 173, 174, 175, 43, 176, 153, 141, 2, 142, 140, 177, 178, 179, 180, 181, 881, 882, 883, 884, 885, 886, 887, 888, 889, 890, 910, 911, 912, 913, 936, 937, 938, 939, 940, 941, 942, 943, 944, 945] (by decide +kernel) (by decide +kernel)
set_option maxRecDepth 20000 in
theorem gL_law_X10_bounds : GoodIn wsL_law (wsV RL 18 RX10 yX10_bounds wsX10_bounds) := goodIn_app (goodIn_of _ (by decide +kernel)) ggL_law_X10_bounds
set_option maxRecDepth 20000 in
theorem ggL_law_X11_bounds : GoodIn wsL_law wsX11_bounds := goodIn_r _ [185, 158, 121, 186, 187, 188, 189, 5, 190, 159, 160, 161, 191, 192, 193, 194, 195, 891, 892, 893, 894, 895, 896, 897, 898, 899, 900, 901, 902, 903, 904, 905, 906, 907, 908, 909] (by decide +kernel) (by decide +kernel)
set_option maxRecDepth 20000 in
theorem gL_law_X11_bounds : GoodIn wsL_law (wsV RL 22 RX11 yX11_bounds wsX11_bounds) := goodIn_app (goodIn_of _ (by decide +kernel)) ggL_law_X11_bounds
set_option maxRecDepth 20000 in
theorem ggL_law_X10_guards : GoodIn wsL_law wsX10_guards := goodIn_r _ [199, 139, 15, 137, 200, 140, 141, 2, 142, 881, 882, 883, 884, 885, 886, 887, 888, 889, 890, 910, 911, 912, 913, 936, 937, 938, 939, 940, 941, 942, 943, 944, 945] (by decide +kernel) (by decide +kernel)
set_option maxRecDepth 20000 in
theorem gL_law_X10_guards : GoodIn wsL_law (wsV RL 23 RX10 yX10_guards wsX10_guards) := goodIn_app (goodIn_of _ (by decide +kernel)) ggL_law_X10_guards
set_option maxRecDepth 20000 in
theorem ggL_law_X11_guards : GoodIn wsL_law wsX11_guards := goodIn_r _ [204, 158, 121, 159, 160, 5, 161, 891, 892, 893, 894, 895, 896, 897, 898, 899, 900, 901, 902, 903, 904, 905, 906, 907, 908, 909] (by decide +kernel) (by decide +kernel)
set_option maxRecDepth 20000 in
theorem gL_law_X11_guards : GoodIn wsL_law (wsV RL 27 RX11 yX11_guards wsX11_guards) := goodIn_app (goodIn_of _ (by decide +kernel)) ggL_law_X11_guards
set_option maxRecDepth 20000 in
theorem ggL_law_X10_of : GoodIn wsL_law wsX10_of := goodIn_r _ [208, 15, 137, 139, 169, 209, 210, 211, 212, 171, 172, 213, 173, 174, 175, 43, 176, 153, 141, 2, 142, 881, 882, 883, 884, 885, 886, 887, 888, 889, 890, 910, 911, 912, 913, 936, 937, 938, 939, 940, 941, 942, 943, 944, 945] (by decide +kernel) (by decide +kernel)
set_option maxRecDepth 20000 in
theorem gL_law_X10_of : GoodIn wsL_law (wsV RL 28 RX10 yX10_of wsX10_of) := goodIn_app (goodIn_of _ (by decide +kernel)) ggL_law_X10_of
set_option maxRecDepth 20000 in
theorem ggL_law_X11_of : GoodIn wsL_law wsX11_of := goodIn_r _ [217, 121, 158, 187, 188, 189, 5, 190, 159, 160, 161, 891, 892, 893, 894, 895, 896, 897, 898, 899, 900, 901, 902, 903, 904, 905, 906, 907, 908, 909] (by decide +kernel) (by decide +kernel)
set_option maxRecDepth 20000 in
theorem gL_law_X11_of : GoodIn wsL_law (wsV RL 32 RX11 yX11_of wsX11_of) := goodIn_app (goodIn_of _ (by decide +kernel)) ggL_law_X11_of
set_option maxRecDepth 20000 in
theorem ggL_law_X10_drop : GoodIn wsL_law wsX10_drop := goodIn_r _ [221, 15, 137, 138, 222, 177, 178, 179, 2, 180, 181, 881, 882, 883, 884, 885, 886, 887, 888, 889, 890, 910, 911, 912, 913, 936, 937, 938, 939, 940, 941, 942, 943, 944, 945] (by decide +kernel) (by decide +kernel)
set_option maxRecDepth 20000 in
theorem gL_law_X10_drop : GoodIn wsL_law (wsV RL 33 RX10 yX10_drop wsX10_drop) := goodIn_app (goodIn_of _ (by decide +kernel)) ggL_law_X10_drop
set_option maxRecDepth 20000 in
theorem ggL_law_X11_drop : GoodIn wsL_law wsX11_drop := goodIn_r _ [226, 121, 227, 191, 192, 193, 5, 194, 195, 891, 892, 893, 894, 895, 896, 897, 898, 899, 900, 901, 902, 903, 904, 905, 906, 907, 908, 909] (by decide +kernel) (by decide +kernel)
set_option maxRecDepth 20000 in
theorem gL_law_X11_drop : GoodIn wsL_law (wsV RL 37 RX11 yX11_drop wsX11_drop) := goodIn_app (goodIn_of _ (by decide +kernel)) ggL_law_X11_drop
set_option maxRecDepth 20000 in
theorem ggL_law_X10_best : GoodIn wsL_law wsX10_best := goodIn_r _ [231, 24, 15, 137, 232, 233, 234, 235, 236, 23, 237, 238, 239, 240, 241, 242, 97, 98, 243, 244, 245, 246, 247, 100, 248, 249, 250, 251, 252, 253, 254, 255, 256, 257, 258, 259, 260, 261, 262, 263, 264, 265, 266, 267, 268, 269, 270, 271, 272, 273, 274, 275, 276, 277, 278, 279, 881, 882, 883, 884, 885, 886, 887, 888, 889, 890, 910, 911, 912, 913, 917, 918, 919, 920, 921, 922, 936, 937, 938, 939, 940, 941, 942, 943, 944, 945] (by decide +kernel) (by decide +kernel)
set_option maxRecDepth 20000 in
theorem gL_law_X10_best : GoodIn wsL_law (wsV RL 38 RX10 yX10_best wsX10_best) := goodIn_app (goodIn_of _ (by decide +kernel)) ggL_law_X10_best
set_option maxRecDepth 20000 in
theorem ggL_law_X11_best : GoodIn wsL_law wsX11_best := goodIn_r _ [283, 284, 285, 286, 287, 288, 5, 289, 121, 290, 291, 292, 293, 294, 295, 296, 297, 298, 299, 300, 301, 302, 303, 304, 305, 306, 307, 127, 308, 245, 246, 247, 309, 310, 311, 312, 891, 892, 893, 894, 895, 896, 897, 898, 899, 900, 901, 902, 903, 904, 905, 906, 907, 908, 909] (by decide +kernel) (by decide +kernel)
set_option maxRecDepth 20000 in
theorem gL_law_X11_best : GoodIn wsL_law (wsV RL 41 RX11 yX11_best wsX11_best) := goodIn_app (goodIn_of _ (by decide +kernel)) ggL_law_X11_best
set_option maxRecDepth 20000 in
theorem ggL_law_X10_worth : GoodIn wsL_law wsX10_worth := goodIn_r _ [316, 24, 15, 137, 233, 232, 317, 234, 235, 236, 23, 237, 238, 239, 240, 241, 242, 97, 98, 243, 244, 245, 246, 247, 100, 248, 249, 250, 251, 252, 253, 254, 255, 256, 257, 258, 259, 260, 261, 262, 263, 264, 265, 266, 267, 268, 269, 270, 271, 272, 273, 274, 275, 276, 277, 278, 279, 318, 319, 320, 321, 2, 322, 139, 37, 323, 324, 325, 326, 327, 328, 881, 882, 883, 884, 885, 886, 887, 888, 889, 890, 910, 911, 912, 913, 917, 918, 919, 920, 921, 922, 936, 937, 938, 939, 940, 941, 942, 943, 944, 945] (by decide +kernel) (by decide +kernel)
set_option maxRecDepth 20000 in
theorem gL_law_X10_worth : GoodIn wsL_law (wsV RL 42 RX10 yX10_worth wsX10_worth) := goodIn_app (goodIn_of _ (by decide +kernel)) ggL_law_X10_worth
set_option maxRecDepth 20000 in
theorem ggL_law_X11_worth : GoodIn wsL_law wsX11_worth := goodIn_r _ [332, 285, 284, 121, 293, 292, 286, 287, 288, 5, 289, 290, 291, 294, 295, 296, 297, 298, 299, 300, 301, 302, 303, 304, 305, 306, 307, 127, 308, 245, 246, 247, 309, 310, 311, 312, 333, 334, 335, 336, 123, 337, 338, 339, 891, 892, 893, 894, 895, 896, 897, 898, 899, 900, 901, 902, 903, 904, 905, 906, 907, 908, 909] (by decide +kernel) (by decide +kernel)
set_option maxRecDepth 20000 in
theorem gL_law_X11_worth : GoodIn wsL_law (wsV RL 45 RX11 yX11_worth wsX11_worth) := goodIn_app (goodIn_of _ (by decide +kernel)) ggL_law_X11_worth
set_option maxRecDepth 20000 in
theorem ggL_law_X10_prize : GoodIn wsL_law wsX10_prize := goodIn_r _ [343, 24, 15, 137, 233, 344, 345, 346, 234, 235, 236, 23, 237, 238, 239, 240, 241, 242, 97, 98, 243, 244, 245, 246, 247, 100, 248, 249, 250, 251, 252, 253, 254, 255, 256, 257, 258, 259, 260, 261, 262, 263, 264, 265, 266, 267, 268, 269, 270, 271, 272, 273, 274, 275, 276, 277, 278, 279, 319, 320, 321, 2, 322, 139, 37, 323, 324, 325, 326, 327, 328, 881, 882, 883, 884, 885, 886, 887, 888, 889, 890, 910, 911, 912, 913, 917, 918, 919, 920, 921, 922, 936, 937, 938, 939, 940, 941, 942, 943, 944, 945] (by decide +kernel) (by decide +kernel)
set_option maxRecDepth 20000 in
theorem gL_law_X10_prize : GoodIn wsL_law (wsV RL 46 RX10 yX10_prize wsX10_prize) := goodIn_app (goodIn_of _ (by decide +kernel)) ggL_law_X10_prize
set_option maxRecDepth 20000 in
theorem ggL_law_X11_prize : GoodIn wsL_law wsX11_prize := goodIn_r _ [350, 293, 285, 286, 287, 288, 5, 289, 284, 121, 290, 291, 292, 294, 295, 296, 297, 298, 299, 300, 301, 302, 303, 304, 305, 306, 307, 127, 308, 245, 246, 247, 309, 310, 311, 312, 333, 334, 335, 336, 123, 337, 338, 339, 891, 892, 893, 894, 895, 896, 897, 898, 899, 900, 901, 902, 903, 904, 905, 906, 907, 908, 909] (by decide +kernel) (by decide +kernel)
set_option maxRecDepth 20000 in
theorem gL_law_X11_prize : GoodIn wsL_law (wsV RL 49 RX11 yX11_prize wsX11_prize) := goodIn_app (goodIn_of _ (by decide +kernel)) ggL_law_X11_prize
set_option maxRecDepth 20000 in
theorem ggL_law_X10_share : GoodIn wsL_law wsX10_share := goodIn_r _ [354, 15, 137, 139, 24, 233, 355, 317, 173, 174, 175, 43, 176, 153, 141, 2, 142, 234, 235, 236, 23, 237, 238, 239, 240, 241, 242, 97, 98, 243, 244, 245, 246, 247, 100, 248, 249, 250, 251, 252, 253, 254, 255, 256, 257, 258, 259, 260, 261, 262, 263, 264, 265, 266, 267, 268, 269, 270, 271, 272, 273, 274, 275, 276, 277, 278, 279, 319, 320, 321, 322, 37, 323, 324, 325, 326, 327, 328, 881, 882, 883, 884, 885, 886, 887, 888, 889, 890, 910, 911, 912, 913, 917, 918, 919, 920, 921, 922, 936, 937, 938, 939, 940, 941, 942, 943, 944, 945] (by decide +kernel) (by decide +kernel)
set_option maxRecDepth 20000 in
theorem gL_law_X10_share : GoodIn wsL_law (wsV RL 50 RX10 yX10_share wsX10_share) := goodIn_app (goodIn_of _ (by decide +kernel)) ggL_law_X10_share
set_option maxRecDepth 20000 in
theorem ggL_law_X11_share : GoodIn wsL_law wsX11_share := goodIn_r _ [359, 158, 127, 307, 285, 187, 188, 189, 5, 190, 121, 159, 160, 161, 286, 287, 288, 289, 284, 290, 291, 292, 293, 294, 295, 296, 297, 298, 299, 300, 301, 302, 303, 304, 305, 306, 308, 245, 246, 247, 309, 310, 311, 312, 333, 334, 335, 336, 123, 337, 338, 339, 891, 892, 893, 894, 895, 896, 897, 898, 899, 900, 901, 902, 903, 904, 905, 906, 907, 908, 909] (by decide +kernel) (by decide +kernel)
set_option maxRecDepth 20000 in
theorem gL_law_X11_share : GoodIn wsL_law (wsV RL 53 RX11 yX11_share wsX11_share) := goodIn_app (goodIn_of _ (by decide +kernel)) ggL_law_X11_share
set_option maxRecDepth 20000 in
theorem ggL_law_X10_below : GoodIn wsL_law wsX10_below := goodIn_r _ [363, 37, 881, 882, 883, 884, 885, 886, 887, 888, 889, 890] (by decide +kernel) (by decide +kernel)
set_option maxRecDepth 20000 in
theorem gL_law_X10_below : GoodIn wsL_law (wsV RL 54 RX10 yX10_below wsX10_below) := goodIn_app (goodIn_of _ (by decide +kernel)) ggL_law_X10_below
set_option maxRecDepth 20000 in
theorem ggL_law_X11_below : GoodIn wsL_law wsX11_below := goodIn_r _ [367, 123, 891, 892, 893, 894, 895, 896, 897, 898, 899, 900, 901, 902, 903, 904, 905, 906, 907, 908, 909] (by decide +kernel) (by decide +kernel)
set_option maxRecDepth 20000 in
theorem gL_law_X11_below : GoodIn wsL_law (wsV RL 57 RX11 yX11_below wsX11_below) := goodIn_app (goodIn_of _ (by decide +kernel)) ggL_law_X11_below
set_option maxRecDepth 20000 in
theorem ggL_law_X10_put : GoodIn wsL_law wsX10_put := goodIn_r _ [371, 15, 137, 171, 172, 139, 213, 173, 174, 175, 43, 176, 153, 141, 2, 142, 140, 881, 882, 883, 884, 885, 886, 887, 888, 889, 890, 910, 911, 912, 913, 936, 937, 938, 939, 940, 941, 942, 943, 944, 945] (by decide +kernel) (by decide +kernel)
set_option maxRecDepth 20000 in
theorem gL_law_X10_put : GoodIn wsL_law (wsV RL 58 RX10 yX10_put wsX10_put) := goodIn_app (goodIn_of _ (by decide +kernel)) ggL_law_X10_put
set_option maxRecDepth 20000 in
theorem ggL_law_X11_put : GoodIn wsL_law wsX11_put := goodIn_r _ [375, 121, 158, 187, 188, 189, 5, 190, 159, 160, 161, 891, 892, 893, 894, 895, 896, 897, 898, 899, 900, 901, 902, 903, 904, 905, 906, 907, 908, 909] (by decide +kernel) (by decide +kernel)
set_option maxRecDepth 20000 in
theorem gL_law_X11_put : GoodIn wsL_law (wsV RL 61 RX11 yX11_put wsX11_put) := goodIn_app (goodIn_of _ (by decide +kernel)) ggL_law_X11_put
set_option maxRecDepth 20000 in
theorem ggL_law_X10_spare : GoodIn wsL_law wsX10_spare := goodIn_r _ [379, 15, 137, 138, 213, 200, 881, 882, 883, 884, 885, 886, 887, 888, 889, 890, 910, 911, 912, 913, 936, 937, 938, 939, 940, 941, 942, 943, 944, 945] (by decide +kernel) (by decide +kernel)
set_option maxRecDepth 20000 in
theorem gL_law_X10_spare : GoodIn wsL_law (wsV RL 62 RX10 yX10_spare wsX10_spare) := goodIn_app (goodIn_of _ (by decide +kernel)) ggL_law_X10_spare
set_option maxRecDepth 20000 in
theorem ggL_law_X11_spare : GoodIn wsL_law wsX11_spare := goodIn_r _ [383, 121, 891, 892, 893, 894, 895, 896, 897, 898, 899, 900, 901, 902, 903, 904, 905, 906, 907, 908, 909] (by decide +kernel) (by decide +kernel)
set_option maxRecDepth 20000 in
theorem gL_law_X11_spare : GoodIn wsL_law (wsV RL 65 RX11 yX11_spare wsX11_spare) := goodIn_app (goodIn_of _ (by decide +kernel)) ggL_law_X11_spare
set_option maxRecDepth 20000 in
theorem ggL_law_X10_comes : GoodIn wsL_law wsX10_comes := goodIn_r _ [387, 15, 137, 138, 233, 388, 389, 390, 43, 391, 153, 392, 393, 394, 395, 65, 69, 66, 396, 397, 398, 399, 64, 63, 881, 882, 883, 884, 885, 886, 887, 888, 889, 890, 910, 911, 912, 913, 936, 937, 938, 939, 940, 941, 942, 943, 944, 945] (by decide +kernel) (by decide +kernel)
set_option maxRecDepth 20000 in
theorem gL_law_X10_comes : GoodIn wsL_law (wsV RL 66 RX10 yX10_comes wsX10_comes) := goodIn_app (goodIn_of _ (by decide +kernel)) ggL_law_X10_comes
set_option maxRecDepth 20000 in
theorem ggL_law_X11_comes : GoodIn wsL_law wsX11_comes := goodIn_r _ [403, 285, 404, 405, 406, 5, 407, 121, 408, 409, 410, 411, 412, 413, 414, 415, 891, 892, 893, 894, 895, 896, 897, 898, 899, 900, 901, 902, 903, 904, 905, 906, 907, 908, 909] (by decide +kernel) (by decide +kernel)
set_option maxRecDepth 20000 in
theorem gL_law_X11_comes : GoodIn wsL_law (wsV RL 69 RX11 yX11_comes wsX11_comes) := goodIn_app (goodIn_of _ (by decide +kernel)) ggL_law_X11_comes
set_option maxRecDepth 20000 in
theorem ggL_law_X10_handWorth : GoodIn wsL_law wsX10_handWorth := goodIn_r _ [419, 15, 137, 138, 233, 345, 388, 389, 390, 43, 391, 153, 392, 393, 394, 395, 65, 69, 66, 396, 397, 398, 399, 64, 63, 420, 319, 320, 321, 2, 322, 139, 37, 323, 324, 325, 326, 327, 246, 328, 881, 882, 883, 884, 885, 886, 887, 888, 889, 890, 910, 911, 912, 913, 936, 937, 938, 939, 940, 941, 942, 943, 944, 945] (by decide +kernel) (by decide +kernel)
set_option maxRecDepth 20000 in
theorem gL_law_X10_handWorth : GoodIn wsL_law (wsV RL 70 RX10 yX10_handWorth wsX10_handWorth) := goodIn_app (goodIn_of _ (by decide +kernel)) ggL_law_X10_handWorth
set_option maxRecDepth 20000 in
theorem ggL_law_X11_handWorth : GoodIn wsL_law wsX11_handWorth := goodIn_r _ [424, 285, 298, 404, 405, 406, 5, 407, 121, 408, 409, 410, 411, 412, 413, 414, 415, 333, 334, 335, 336, 123, 337, 338, 339, 891, 892, 893, 894, 895, 896, 897, 898, 899, 900, 901, 902, 903, 904, 905, 906, 907, 908, 909] (by decide +kernel) (by decide +kernel)
set_option maxRecDepth 20000 in
theorem gL_law_X11_handWorth : GoodIn wsL_law (wsV RL 73 RX11 yX11_handWorth wsX11_handWorth) := goodIn_app (goodIn_of _ (by decide +kernel)) ggL_law_X11_handWorth
set_option maxRecDepth 20000 in
theorem ggL_law_X10_errs : GoodIn wsL_law wsX10_errs := goodIn_r _ [428, 139, 15, 137, 138, 233, 345, 140, 141, 2, 142, 429, 430, 431, 43, 432, 153, 433, 434, 246, 435, 436, 389, 390, 391, 392, 393, 394, 395, 65, 69, 66, 396, 397, 398, 399, 64, 63, 319, 320, 321, 322, 37, 323, 324, 325, 326, 327, 328, 881, 882, 883, 884, 885, 886, 887, 888, 889, 890, 910, 911, 912, 913, 936, 937, 938, 939, 940, 941, 942, 943, 944, 945] (by decide +kernel) (by decide +kernel)
set_option maxRecDepth 20000 in
theorem gL_law_X10_errs : GoodIn wsL_law (wsV RL 74 RX10 yX10_errs wsX10_errs) := goodIn_app (goodIn_of _ (by decide +kernel)) ggL_law_X10_errs
set_option maxRecDepth 20000 in
theorem ggL_law_X11_errs : GoodIn wsL_law wsX11_errs := goodIn_r _ [440, 158, 285, 121, 298, 159, 160, 5, 161, 404, 405, 406, 407, 408, 409, 410, 411, 412, 413, 414, 415, 333, 334, 335, 336, 123, 337, 338, 339, 891, 892, 893, 894, 895, 896, 897, 898, 899, 900, 901, 902, 903, 904, 905, 906, 907, 908, 909] (by decide +kernel) (by decide +kernel)
set_option maxRecDepth 20000 in
theorem gL_law_X11_errs : GoodIn wsL_law (wsV RL 77 RX11 yX11_errs wsX11_errs) := goodIn_app (goodIn_of _ (by decide +kernel)) ggL_law_X11_errs
set_option maxRecDepth 20000 in
theorem ggL_law_X10_lots : GoodIn wsL_law wsX10_lots := goodIn_r _ [444, 28, 445, 233, 446, 447, 448, 2, 449, 24, 15, 137, 234, 235, 236, 23, 237, 238, 239, 240, 241, 242, 97, 98, 243, 244, 245, 246, 247, 100, 248, 249, 250, 251, 252, 253, 254, 255, 256, 257, 258, 259, 260, 261, 262, 263, 264, 265, 266, 267, 268, 269, 270, 271, 272, 273, 274, 275, 276, 277, 278, 279, 450, 451, 452, 27, 453, 454, 104, 455, 456, 457, 458, 459, 460, 461, 462, 463, 464, 881, 882, 883, 884, 885, 886, 887, 888, 889, 890, 923, 924, 910, 911, 912, 913, 936, 937, 938, 939, 940, 941, 942, 943, 944, 945, 917, 918, 919, 920, 921, 922] (by decide +kernel) (by decide +kernel)
set_option maxRecDepth 20000 in
theorem gL_law_X10_lots : GoodIn wsL_law (wsV RL 78 RX10 yX10_lots wsX10_lots) := goodIn_app (goodIn_of _ (by decide +kernel)) ggL_law_X10_lots
set_option maxRecDepth 20000 in
theorem ggL_law_X11_lots : GoodIn wsL_law wsX11_lots := goodIn_r _ [468, 469, 285, 470, 471, 472, 5, 473, 121, 127, 307, 128, 286, 287, 288, 289, 284, 290, 291, 292, 293, 294, 295, 296, 297, 298, 299, 300, 301, 302, 303, 304, 305, 306, 308, 245, 246, 247, 309, 310, 311, 312, 474, 475, 476, 477, 891, 892, 893, 894, 895, 896, 897, 898, 899, 900, 901, 902, 903, 904, 905, 906, 907, 908, 909] (by decide +kernel) (by decide +kernel)
set_option maxRecDepth 20000 in
theorem gL_law_X11_lots : GoodIn wsL_law (wsV RL 81 RX11 yX11_lots wsX11_lots) := goodIn_app (goodIn_of _ (by decide +kernel)) ggL_law_X11_lots
set_option maxRecDepth 20000 in
theorem ggL_law_X10_team : GoodIn wsL_law wsX10_team := goodIn_r _ [481, 28, 445, 233, 24, 482, 446, 447, 448, 2, 449, 15, 137, 234, 235, 236, 23, 237, 238, 239, 240, 241, 242, 97, 98, 243, 244, 245, 246, 247, 100, 248, 249, 250, 251, 252, 253, 254, 255, 256, 257, 258, 259, 260, 261, 262, 263, 264, 265, 266, 267, 268, 269, 270, 271, 272, 273, 274, 275, 276, 277, 278, 279, 450, 451, 452, 27, 453, 454, 104, 455, 456, 457, 458, 459, 460, 461, 462, 463, 464, 140, 141, 142, 483, 484, 485, 486, 881, 882, 883, 884, 885, 886, 887, 888, 889, 890, 923, 924, 910, 911, 912, 913, 936, 937, 938, 939, 940, 941, 942, 943, 944, 945, 917, 918, 919, 920, 921, 922] (by decide +kernel) (by decide +kernel)
set_option maxRecDepth 20000 in
theorem gL_law_X10_team : GoodIn wsL_law (wsV RL 82 RX10 yX10_team wsX10_team) := goodIn_app (goodIn_of _ (by decide +kernel)) ggL_law_X10_team
set_option maxRecDepth 20000 in
theorem ggL_law_X11_team : GoodIn wsL_law wsX11_team := goodIn_r _ [490, 469, 285, 121, 127, 128, 307, 470, 471, 472, 5, 473, 286, 287, 288, 289, 284, 290, 291, 292, 293, 294, 295, 296, 297, 298, 299, 300, 301, 302, 303, 304, 305, 306, 308, 245, 246, 247, 309, 310, 311, 312, 474, 475, 476, 477, 159, 160, 161, 891, 892, 893, 894, 895, 896, 897, 898, 899, 900, 901, 902, 903, 904, 905, 906, 907, 908, 909] (by decide +kernel) (by decide +kernel)
set_option maxRecDepth 20000 in
theorem gL_law_X11_team : GoodIn wsL_law (wsV RL 85 RX11 yX11_team wsX11_team) := goodIn_app (goodIn_of _ (by decide +kernel)) ggL_law_X11_team
set_option maxRecDepth 20000 in
theorem ggL_law_X10_chance : GoodIn wsL_law wsX10_chance := goodIn_r _ [494, 28, 445, 233, 482, 24, 317, 446, 447, 448, 2, 449, 15, 137, 234, 235, 236, 23, 237, 238, 239, 240, 241, 242, 97, 98, 243, 244, 245, 246, 247, 100, 248, 249, 250, 251, 252, 253, 254, 255, 256, 257, 258, 259, 260, 261, 262, 263, 264, 265, 266, 267, 268, 269, 270, 271, 272, 273, 274, 275, 276, 277, 278, 279, 450, 451, 452, 27, 453, 454, 104, 455, 456, 457, 458, 459, 460, 461, 462, 463, 464, 140, 141, 142, 319, 320, 321, 322, 139, 37, 323, 324, 325, 326, 327, 328, 881, 882, 883, 884, 885, 886, 887, 888, 889, 890, 923, 924, 917, 918, 919, 920, 921, 922, 910, 911, 912, 913, 936, 937, 938, 939, 940, 941, 942, 943, 944, 945] (by decide +kernel) (by decide +kernel)
set_option maxRecDepth 20000 in
theorem gL_law_X10_chance : GoodIn wsL_law (wsV RL 86 RX10 yX10_chance wsX10_chance) := goodIn_app (goodIn_of _ (by decide +kernel)) ggL_law_X10_chance
set_option maxRecDepth 20000 in
theorem ggL_law_X11_chance : GoodIn wsL_law wsX11_chance := goodIn_r _ [498, 469, 128, 307, 285, 470, 471, 472, 5, 473, 121, 127, 286, 287, 288, 289, 284, 290, 291, 292, 293, 294, 295, 296, 297, 298, 299, 300, 301, 302, 303, 304, 305, 306, 308, 245, 246, 247, 309, 310, 311, 312, 474, 475, 476, 477, 159, 160, 161, 333, 334, 335, 336, 123, 337, 338, 339, 891, 892, 893, 894, 895, 896, 897, 898, 899, 900, 901, 902, 903, 904, 905, 906, 907, 908, 909] (by decide +kernel) (by decide +kernel)
set_option maxRecDepth 20000 in
theorem gL_law_X11_chance : GoodIn wsL_law (wsV RL 89 RX11 yX11_chance wsX11_chance) := goodIn_app (goodIn_of _ (by decide +kernel)) ggL_law_X11_chance
set_option maxRecDepth 20000 in
theorem ggL_law_X10_road : GoodIn wsL_law wsX10_road := goodIn_r _ [502, 15, 503, 504, 139, 505, 506, 2, 507, 140, 141, 142, 508, 509, 510, 47, 511, 512, 73, 74, 75, 881, 882, 883, 884, 885, 886, 887, 888, 889, 890, 910, 911, 912, 913, 946, 947, 948, 949, 950, 951, 952] (by decide +kernel) (by decide +kernel)
set_option maxRecDepth 20000 in
theorem gL_law_X10_road : GoodIn wsL_law (wsV RL 90 RX10 yX10_road wsX10_road) := goodIn_app (goodIn_of _ (by decide +kernel)) ggL_law_X10_road
set_option maxRecDepth 20000 in
theorem ggL_law_X11_road : GoodIn wsL_law wsX11_road := goodIn_r _ [516, 121, 158, 517, 518, 5, 519, 159, 160, 161, 891, 892, 893, 894, 895, 896, 897, 898, 899, 900, 901, 902, 903, 904, 905, 906, 907, 908, 909] (by decide +kernel) (by decide +kernel)
set_option maxRecDepth 20000 in
theorem gL_law_X11_road : GoodIn wsL_law (wsV RL 93 RX11 yX11_road wsX11_road) := goodIn_app (goodIn_of _ (by decide +kernel)) ggL_law_X11_road
set_option maxRecDepth 20000 in
theorem ggL_law_X10_bar : GoodIn wsL_law wsX10_bar := goodIn_r _ [523, 15, 503, 504, 139, 524, 140, 141, 2, 142, 881, 882, 883, 884, 885, 886, 887, 888, 889, 890, 910, 911, 912, 913, 946, 947, 948, 949, 950, 951, 952] (by decide +kernel) (by decide +kernel)
set_option maxRecDepth 20000 in
theorem gL_law_X10_bar : GoodIn wsL_law (wsV RL 94 RX10 yX10_bar wsX10_bar) := goodIn_app (goodIn_of _ (by decide +kernel)) ggL_law_X10_bar
set_option maxRecDepth 20000 in
theorem ggL_law_X11_bar : GoodIn wsL_law wsX11_bar := goodIn_r _ [528, 121, 158, 159, 160, 5, 161, 891, 892, 893, 894, 895, 896, 897, 898, 899, 900, 901, 902, 903, 904, 905, 906, 907, 908, 909] (by decide +kernel) (by decide +kernel)
set_option maxRecDepth 20000 in
theorem gL_law_X11_bar : GoodIn wsL_law (wsV RL 98 RX11 yX11_bar wsX11_bar) := goodIn_app (goodIn_of _ (by decide +kernel)) ggL_law_X11_bar
set_option maxRecDepth 20000 in
theorem ggL_law_X10_shortest : GoodIn wsL_law wsX10_shortest := goodIn_r _ [532, 139, 15, 503, 533, 233, 505, 506, 2, 507, 140, 141, 142, 534, 535, 536, 47, 537, 76, 538, 77, 539, 540, 541, 542, 543, 544, 545, 546, 547, 512, 73, 75, 74, 881, 882, 883, 884, 885, 886, 887, 888, 889, 890, 910, 911, 912, 913, 946, 947, 948, 949, 950, 951, 952] (by decide +kernel) (by decide +kernel)
set_option maxRecDepth 20000 in
theorem gL_law_X10_shortest : GoodIn wsL_law (wsV RL 99 RX10 yX10_shortest wsX10_shortest) := goodIn_app (goodIn_of _ (by decide +kernel)) ggL_law_X10_shortest
set_option maxRecDepth 20000 in
theorem ggL_law_X11_shortest : GoodIn wsL_law wsX11_shortest := goodIn_r _ [551, 158, 552, 285, 517, 518, 5, 519, 159, 160, 161, 553, 554, 555, 556, 129, 121, 557, 434, 246, 435, 891, 892, 893, 894, 895, 896, 897, 898, 899, 900, 901, 902, 903, 904, 905, 906, 907, 908, 909] (by decide +kernel) (by decide +kernel)
set_option maxRecDepth 20000 in
theorem gL_law_X11_shortest : GoodIn wsL_law (wsV RL 102 RX11 yX11_shortest wsX11_shortest) := goodIn_app (goodIn_of _ (by decide +kernel)) ggL_law_X11_shortest
set_option maxRecDepth 20000 in
theorem ggL_law_X10_bars : GoodIn wsL_law wsX10_bars := goodIn_r _ [561, 139, 32, 15, 503, 505, 506, 2, 507, 140, 141, 142, 562, 563, 564, 31, 565, 566, 567, 568, 569, 570, 571, 572, 573, 574, 575, 535, 536, 47, 537, 76, 538, 77, 539, 540, 541, 542, 543, 544, 545, 546, 547, 512, 73, 75, 74, 576, 577, 578, 579, 580, 581, 582, 583, 584, 585, 586, 587, 588, 589, 590, 881, 882, 883, 884, 885, 886, 887, 888, 889, 890, 910, 911, 912, 913, 925, 926, 927, 928, 946, 947, 948, 949, 950, 951, 952] (by decide +kernel) (by decide +kernel)
set_option maxRecDepth 20000 in
theorem gL_law_X10_bars : GoodIn wsL_law (wsV RL 103 RX10 yX10_bars wsX10_bars) := goodIn_app (goodIn_of _ (by decide +kernel)) ggL_law_X10_bars
set_option maxRecDepth 20000 in
theorem ggL_law_X11_bars : GoodIn wsL_law wsX11_bars := goodIn_r _ [594, 158, 121, 517, 518, 5, 519, 159, 160, 161, 553, 554, 555, 556, 129, 552, 557, 434, 246, 435, 595, 596, 597, 598, 599, 600, 601, 891, 892, 893, 894, 895, 896, 897, 898, 899, 900, 901, 902, 903, 904, 905, 906, 907, 908, 909] (by decide +kernel) (by decide +kernel)
set_option maxRecDepth 20000 in
theorem gL_law_X11_bars : GoodIn wsL_law (wsV RL 106 RX11 yX11_bars wsX11_bars) := goodIn_app (goodIn_of _ (by decide +kernel)) ggL_law_X11_bars
set_option maxRecDepth 20000 in
theorem ggL_law_X10_post : GoodIn wsL_law wsX10_post := goodIn_r _ [605, 15, 606, 607, 139, 140, 141, 2, 142, 608, 609, 610, 51, 611, 612, 81, 881, 882, 883, 884, 885, 886, 887, 888, 889, 890, 910, 911, 912, 913, 953, 954] (by decide +kernel) (by decide +kernel)
set_option maxRecDepth 20000 in
theorem gL_law_X10_post : GoodIn wsL_law (wsV RL 107 RX10 yX10_post wsX10_post) := goodIn_app (goodIn_of _ (by decide +kernel)) ggL_law_X10_post
set_option maxRecDepth 20000 in
theorem ggL_law_X11_post : GoodIn wsL_law wsX11_post := goodIn_r _ [616, 121, 158, 159, 160, 5, 161, 891, 892, 893, 894, 895, 896, 897, 898, 899, 900, 901, 902, 903, 904, 905, 906, 907, 908, 909] (by decide +kernel) (by decide +kernel)
set_option maxRecDepth 20000 in
theorem gL_law_X11_post : GoodIn wsL_law (wsV RL 110 RX11 yX11_post wsX11_post) := goodIn_app (goodIn_of _ (by decide +kernel)) ggL_law_X11_post
set_option maxRecDepth 20000 in
theorem ggL_law_X10_every : GoodIn wsL_law wsX10_every := goodIn_r _ [620, 15, 606, 607, 139, 621, 140, 141, 2, 142, 881, 882, 883, 884, 885, 886, 887, 888, 889, 890, 910, 911, 912, 913, 953, 954] (by decide +kernel) (by decide +kernel)
set_option maxRecDepth 20000 in
theorem gL_law_X10_every : GoodIn wsL_law (wsV RL 111 RX10 yX10_every wsX10_every) := goodIn_app (goodIn_of _ (by decide +kernel)) ggL_law_X10_every
set_option maxRecDepth 20000 in
theorem ggL_law_X11_every : GoodIn wsL_law wsX11_every := goodIn_r _ [625, 121, 158, 159, 160, 5, 161, 891, 892, 893, 894, 895, 896, 897, 898, 899, 900, 901, 902, 903, 904, 905, 906, 907, 908, 909] (by decide +kernel) (by decide +kernel)
set_option maxRecDepth 20000 in
theorem gL_law_X11_every : GoodIn wsL_law (wsV RL 114 RX11 yX11_every wsX11_every) := goodIn_app (goodIn_of _ (by decide +kernel)) ggL_law_X11_every
set_option maxRecDepth 20000 in
theorem ggL_law_X10_visit : GoodIn wsL_law wsX10_visit := goodIn_r _ [629, 139, 15, 606, 607, 222, 36, 140, 141, 2, 142, 177, 178, 179, 180, 181, 630, 631, 632, 35, 633, 112, 113, 114, 634, 635, 636, 637, 638, 51, 639, 612, 81, 640, 641, 642, 643, 644, 645, 646, 647, 648, 649, 542, 650, 651, 652, 653, 654, 655, 656, 657, 658, 659, 660, 115, 116, 661, 662, 663, 664, 665, 666, 667, 668, 669, 670, 671, 672, 673, 674, 675, 676, 677, 678, 679, 680, 681, 682, 683, 684, 881, 882, 883, 884, 885, 886, 887, 888, 889, 890, 910, 911, 912, 913, 953, 954, 929, 930, 931, 932, 933, 934, 935] (by decide +kernel) (by decide +kernel)
set_option maxRecDepth 20000 in
theorem gL_law_X10_visit : GoodIn wsL_law (wsV RL 115 RX10 yX10_visit wsX10_visit) := goodIn_app (goodIn_of _ (by decide +kernel)) ggL_law_X10_visit
set_option maxRecDepth 20000 in
theorem ggL_law_X11_visit : GoodIn wsL_law wsX11_visit := goodIn_r _ [688, 158, 121, 227, 132, 285, 159, 160, 5, 161, 191, 192, 193, 194, 195, 689, 690, 691, 692, 693, 694, 695, 696, 697, 698, 699, 700, 701, 702, 703, 704, 891, 892, 893, 894, 895, 896, 897, 898, 899, 900, 901, 902, 903, 904, 905, 906, 907, 908, 909] (by decide +kernel) (by decide +kernel)
set_option maxRecDepth 20000 in
theorem gL_law_X11_visit : GoodIn wsL_law (wsV RL 118 RX11 yX11_visit wsX11_visit) := goodIn_app (goodIn_of _ (by decide +kernel)) ggL_law_X11_visit
set_option maxRecDepth 20000 in
theorem ggL_law_X10_haunt : GoodIn wsL_law wsX10_haunt := goodIn_r _ [708, 15, 709, 710, 139, 140, 141, 2, 142, 711, 712, 713, 55, 714, 715, 85, 86, 881, 882, 883, 884, 885, 886, 887, 888, 889, 890, 910, 911, 912, 913, 955, 956, 957] (by decide +kernel) (by decide +kernel)
set_option maxRecDepth 20000 in
theorem gL_law_X10_haunt : GoodIn wsL_law (wsV RL 119 RX10 yX10_haunt wsX10_haunt) := goodIn_app (goodIn_of _ (by decide +kernel)) ggL_law_X10_haunt
set_option maxRecDepth 20000 in
theorem ggL_law_X11_haunt : GoodIn wsL_law wsX11_haunt := goodIn_r _ [719, 121, 158, 159, 160, 5, 161, 891, 892, 893, 894, 895, 896, 897, 898, 899, 900, 901, 902, 903, 904, 905, 906, 907, 908, 909] (by decide +kernel) (by decide +kernel)
set_option maxRecDepth 20000 in
theorem gL_law_X11_haunt : GoodIn wsL_law (wsV RL 122 RX11 yX11_haunt wsX11_haunt) := goodIn_app (goodIn_of _ (by decide +kernel)) ggL_law_X11_haunt
set_option maxRecDepth 20000 in
theorem ggL_law_X10_caught : GoodIn wsL_law wsX10_caught := goodIn_r _ [723, 15, 709, 139, 140, 141, 2, 142, 724, 725, 726, 55, 727, 715, 85, 86, 881, 882, 883, 884, 885, 886, 887, 888, 889, 890, 910, 911, 912, 913, 955, 956, 957] (by decide +kernel) (by decide +kernel)
set_option maxRecDepth 20000 in
theorem gL_law_X10_caught : GoodIn wsL_law (wsV RL 123 RX10 yX10_caught wsX10_caught) := goodIn_app (goodIn_of _ (by decide +kernel)) ggL_law_X10_caught
set_option maxRecDepth 20000 in
theorem ggL_law_X11_caught : GoodIn wsL_law wsX11_caught := goodIn_r _ [731, 158, 732, 733, 5, 734, 159, 160, 161, 735, 736, 737, 738, 121, 891, 892, 893, 894, 895, 896, 897, 898, 899, 900, 901, 902, 903, 904, 905, 906, 907, 908, 909] (by decide +kernel) (by decide +kernel)
set_option maxRecDepth 20000 in
theorem gL_law_X11_caught : GoodIn wsL_law (wsV RL 126 RX11 yX11_caught wsX11_caught) := goodIn_app (goodIn_of _ (by decide +kernel)) ggL_law_X11_caught
