theorem dX2_widened_7 : decode cX2_widened 7 = .ok (.aload_n 0, 1) := by decide +kernel
theorem dX2_widened_8 : decode cX2_widened 8 = .ok (.getfield 19, 3) := by decide +kernel
theorem dX2_widened_11 : decode cX2_widened 11 = .ok (.if_icmp .ge 51, 3) := by decide +kernel
theorem dX2_widened_14 : decode cX2_widened 14 = .ok (.iload_n 2, 1) := by decide +kernel
theorem dX2_widened_15 : decode cX2_widened 15 = .ok (.ifCond .eq 8, 3) := by decide +kernel
theorem dX2_widened_18 : decode cX2_widened 18 = .ok (.iload 4, 2) := by decide +kernel
theorem dX2_widened_20 : decode cX2_widened 20 = .ok (.goto 12, 3) := by decide +kernel
theorem dX2_widened_23 : decode cX2_widened 23 = .ok (.aload_n 0, 1) := by decide +kernel
theorem dX2_widened_24 : decode cX2_widened 24 = .ok (.getfield 19, 3) := by decide +kernel
theorem dX2_widened_27 : decode cX2_widened 27 = .ok (.iconst 1, 1) := by decide +kernel
theorem dX2_widened_28 : decode cX2_widened 28 = .ok (.isub, 1) := by decide +kernel
theorem dX2_widened_29 : decode cX2_widened 29 = .ok (.iload 4, 2) := by decide +kernel
theorem dX2_widened_31 : decode cX2_widened 31 = .ok (.isub, 1) := by decide +kernel
theorem dX2_widened_32 : decode cX2_widened 32 = .ok (.istore 5, 2) := by decide +kernel
theorem dX2_widened_34 : decode cX2_widened 34 = .ok (.iload_n 3, 1) := by decide +kernel
theorem dX2_widened_35 : decode cX2_widened 35 = .ok (.iconst 3, 1) := by decide +kernel
theorem dX2_widened_36 : decode cX2_widened 36 = .ok (.iconst 2, 1) := by decide +kernel
theorem dX2_widened_37 : decode cX2_widened 37 = .ok (.iload 5, 2) := by decide +kernel
theorem dX2_widened_39 : decode cX2_widened 39 = .ok (.imul, 1) := by decide +kernel
theorem dX2_widened_40 : decode cX2_widened 40 = .ok (.ishl, 1) := by decide +kernel
theorem dX2_widened_41 : decode cX2_widened 41 = .ok (.ior, 1) := by decide +kernel
theorem dX2_widened_42 : decode cX2_widened 42 = .ok (.istore 6, 2) := by decide +kernel
theorem dX2_widened_44 : decode cX2_widened 44 = .ok (.aload_n 0, 1) := by decide +kernel
theorem dX2_widened_45 : decode cX2_widened 45 = .ok (.iload 6, 2) := by decide +kernel
theorem dX2_widened_47 : decode cX2_widened 47 = .ok (.invokevirtual 60, 3) := by decide +kernel
theorem dX2_widened_50 : decode cX2_widened 50 = .ok (.ifCond .ne 6, 3) := by decide +kernel
theorem dX2_widened_53 : decode cX2_widened 53 = .ok (.iload 6, 2) := by decide +kernel
theorem dX2_widened_55 : decode cX2_widened 55 = .ok (.istore_n 3, 1) := by decide +kernel
theorem dX2_widened_56 : decode cX2_widened 56 = .ok (.iinc 4 1, 3) := by decide +kernel
theorem dX2_widened_59 : decode cX2_widened 59 = .ok (.goto (-54), 3) := by decide +kernel
theorem dX2_widened_62 : decode cX2_widened 62 = .ok (.iload_n 3, 1) := by decide +kernel
theorem dX2_widened_63 : decode cX2_widened 63 = .ok (.ireturn, 1) := by decide +kernel
set_option maxRecDepth 20000 in
theorem ggX2_widen_X2_isCube : GoodIn wsX2_widen wsX2_isCube := goodIn_r _ [5, 6, 24, 25, 26, 27] (by decide +kernel) (by decide +kernel)
set_option maxRecDepth 20000 in
theorem gX2_widen_X2_isCube : GoodIn wsX2_widen (wsV RX2 33 RX2 yX2_isCube wsX2_isCube) := goodIn_app (goodIn_of _ (by decide +kernel)) ggX2_widen_X2_isCube
set_option maxRecDepth 20000 in
theorem ggX2_widen_X2_isVoid : GoodIn wsX2_widen wsX2_isVoid := goodIn_r _ [10, 6, 24, 25, 26, 27] (by decide +kernel) (by decide +kernel)
set_option maxRecDepth 20000 in
theorem gX2_widen_X2_isVoid : GoodIn wsX2_widen (wsV RX2 57 RX2 yX2_isVoid wsX2_isVoid) := goodIn_app (goodIn_of _ (by decide +kernel)) ggX2_widen_X2_isVoid
set_option maxRecDepth 20000 in
theorem ggX2_widen_X2_touches : GoodIn wsX2_widen wsX2_touches := goodIn_r _ [14, 6, 15, 16, 17, 18, 4, 19, 24, 25, 26, 27] (by decide +kernel) (by decide +kernel)
set_option maxRecDepth 20000 in
theorem gX2_widen_X2_touches : GoodIn wsX2_widen (wsV RX2 60 RX2 yX2_touches wsX2_touches) := goodIn_app (goodIn_of _ (by decide +kernel)) ggX2_widen_X2_touches
set_option maxRecDepth 20000 in
theorem ggX2_widen_X2_widened : GoodIn wsX2_widen wsX2_widened := goodIn_r _ [23, 6, 11, 12, 13, 4, 14, 15, 16, 17, 18, 19, 24, 25, 26, 27] (by decide +kernel) (by decide +kernel)
set_option maxRecDepth 20000 in
theorem gX2_widen_X2_widened : GoodIn wsX2_widen (wsV RX2 63 RX2 yX2_widened wsX2_widened) := goodIn_app (goodIn_of _ (by decide +kernel)) ggX2_widen_X2_widened
theorem dX2_widen_0 : decode cX2_widen 0 = .ok (.aload_n 0, 1) := by decide +kernel
theorem dX2_widen_1 : decode cX2_widen 1 = .ok (.iload_n 1, 1) := by decide +kernel
theorem dX2_widen_2 : decode cX2_widen 2 = .ok (.invokevirtual 33, 3) := by decide +kernel
theorem dX2_widen_5 : decode cX2_widen 5 = .ok (.ifCond .eq 19, 3) := by decide +kernel
theorem dX2_widen_8 : decode cX2_widen 8 = .ok (.aload_n 0, 1) := by decide +kernel
theorem dX2_widen_9 : decode cX2_widen 9 = .ok (.iload_n 1, 1) := by decide +kernel
theorem dX2_widen_10 : decode cX2_widen 10 = .ok (.invokevirtual 57, 3) := by decide +kernel
theorem dX2_widen_13 : decode cX2_widen 13 = .ok (.ifCond .ne 11, 3) := by decide +kernel
theorem dX2_widen_16 : decode cX2_widen 16 = .ok (.aload_n 0, 1) := by decide +kernel
theorem dX2_widen_17 : decode cX2_widen 17 = .ok (.iload_n 1, 1) := by decide +kernel
theorem dX2_widen_18 : decode cX2_widen 18 = .ok (.invokevirtual 60, 3) := by decide +kernel
theorem dX2_widen_21 : decode cX2_widen 21 = .ok (.ifCond .eq 7, 3) := by decide +kernel
theorem dX2_widen_24 : decode cX2_widen 24 = .ok (.iconst (-1), 1) := by decide +kernel
theorem dX2_widen_25 : decode cX2_widen 25 = .ok (.goto 9, 3) := by decide +kernel
theorem dX2_widen_28 : decode cX2_widen 28 = .ok (.aload_n 0, 1) := by decide +kernel
theorem dX2_widen_29 : decode cX2_widen 29 = .ok (.iload_n 1, 1) := by decide +kernel
theorem dX2_widen_30 : decode cX2_widen 30 = .ok (.iconst 1, 1) := by decide +kernel
theorem dX2_widen_31 : decode cX2_widen 31 = .ok (.invokevirtual 63, 3) := by decide +kernel
theorem dX2_widen_34 : decode cX2_widen 34 = .ok (.ireturn, 1) := by decide +kernel
set_option maxRecDepth 20000 in
theorem ggX2_inAnother_X2_in : GoodIn wsX2_inAnother wsX2_in := goodIn_r _ [7, 8, 9, 10, 11, 12] (by decide +kernel) (by decide +kernel)
set_option maxRecDepth 20000 in
theorem gX2_inAnother_X2_in : GoodIn wsX2_inAnother (wsV RX2 26 RX2 yX2_in wsX2_in) := goodIn_app (goodIn_of _ (by decide +kernel)) ggX2_inAnother_X2_in
theorem dX2_inAnother_0 : decode cX2_inAnother 0 = .ok (.iconst 0, 1) := by decide +kernel
theorem dX2_inAnother_1 : decode cX2_inAnother 1 = .ok (.istore 4, 2) := by decide +kernel
theorem dX2_inAnother_3 : decode cX2_inAnother 3 = .ok (.iload 4, 2) := by decide +kernel
theorem dX2_inAnother_5 : decode cX2_inAnother 5 = .ok (.aload_n 0, 1) := by decide +kernel
theorem dX2_inAnother_6 : decode cX2_inAnother 6 = .ok (.getfield 13, 3) := by decide +kernel
theorem dX2_inAnother_9 : decode cX2_inAnother 9 = .ok (.iload_n 2, 1) := by decide +kernel
theorem dX2_inAnother_10 : decode cX2_inAnother 10 = .ok (.iaload, 1) := by decide +kernel
theorem dX2_inAnother_11 : decode cX2_inAnother 11 = .ok (.if_icmp .ge 37, 3) := by decide +kernel
theorem dX2_inAnother_14 : decode cX2_inAnother 14 = .ok (.iload 4, 2) := by decide +kernel
theorem dX2_inAnother_16 : decode cX2_inAnother 16 = .ok (.iload_n 3, 1) := by decide +kernel
theorem dX2_inAnother_17 : decode cX2_inAnother 17 = .ok (.if_icmp .eq 25, 3) := by decide +kernel
theorem dX2_inAnother_20 : decode cX2_inAnother 20 = .ok (.aload_n 0, 1) := by decide +kernel
theorem dX2_inAnother_21 : decode cX2_inAnother 21 = .ok (.iload_n 1, 1) := by decide +kernel
theorem dX2_inAnother_22 : decode cX2_inAnother 22 = .ok (.aload_n 0, 1) := by decide +kernel
theorem dX2_inAnother_23 : decode cX2_inAnother 23 = .ok (.getfield 7, 3) := by decide +kernel
theorem dX2_inAnother_26 : decode cX2_inAnother 26 = .ok (.bipush 24, 2) := by decide +kernel
theorem dX2_inAnother_28 : decode cX2_inAnother 28 = .ok (.iload_n 2, 1) := by decide +kernel
theorem dX2_inAnother_29 : decode cX2_inAnother 29 = .ok (.imul, 1) := by decide +kernel
theorem dX2_inAnother_30 : decode cX2_inAnother 30 = .ok (.iload 4, 2) := by decide +kernel
theorem dX2_inAnother_32 : decode cX2_inAnother 32 = .ok (.iadd, 1) := by decide +kernel
theorem dX2_inAnother_33 : decode cX2_inAnother 33 = .ok (.iaload, 1) := by decide +kernel
theorem dX2_inAnother_34 : decode cX2_inAnother 34 = .ok (.invokevirtual 26, 3) := by decide +kernel
theorem dX2_inAnother_37 : decode cX2_inAnother 37 = .ok (.ifCond .eq 5, 3) := by decide +kernel
theorem dX2_inAnother_40 : decode cX2_inAnother 40 = .ok (.iconst 1, 1) := by decide +kernel
theorem dX2_inAnother_41 : decode cX2_inAnother 41 = .ok (.ireturn, 1) := by decide +kernel
theorem dX2_inAnother_42 : decode cX2_inAnother 42 = .ok (.iinc 4 1, 3) := by decide +kernel
theorem dX2_inAnother_45 : decode cX2_inAnother 45 = .ok (.goto (-42), 3) := by decide +kernel
theorem dX2_inAnother_48 : decode cX2_inAnother 48 = .ok (.iconst 0, 1) := by decide +kernel
theorem dX2_inAnother_49 : decode cX2_inAnother 49 = .ok (.ireturn, 1) := by decide +kernel
set_option maxRecDepth 20000 in
theorem ggX2_isNeeded_X2_in : GoodIn wsX2_isNeeded wsX2_in := goodIn_r _ [8, 1, 14, 15, 16, 17] (by decide +kernel) (by decide +kernel)
set_option maxRecDepth 20000 in
theorem gX2_isNeeded_X2_in : GoodIn wsX2_isNeeded (wsV RX2 26 RX2 yX2_in wsX2_in) := goodIn_app (goodIn_of _ (by decide +kernel)) ggX2_isNeeded_X2_in
set_option maxRecDepth 20000 in
theorem ggX2_isNeeded_X2_inAnother : GoodIn wsX2_isNeeded wsX2_inAnother := goodIn_r _ [12, 13, 3, 4, 5, 6, 7, 8, 1, 14, 15, 16, 17] (by decide +kernel) (by decide +kernel)
set_option maxRecDepth 20000 in
theorem gX2_isNeeded_X2_inAnother : GoodIn wsX2_isNeeded (wsV RX2 67 RX2 yX2_inAnother wsX2_inAnother) := goodIn_app (goodIn_of _ (by decide +kernel)) ggX2_isNeeded_X2_inAnother
theorem dX2_isNeeded_0 : decode cX2_isNeeded 0 = .ok (.iconst 0, 1) := by decide +kernel
theorem dX2_isNeeded_1 : decode cX2_isNeeded 1 = .ok (.istore_n 3, 1) := by decide +kernel
theorem dX2_isNeeded_2 : decode cX2_isNeeded 2 = .ok (.iload_n 3, 1) := by decide +kernel
theorem dX2_isNeeded_3 : decode cX2_isNeeded 3 = .ok (.iconst 1, 1) := by decide +kernel
theorem dX2_isNeeded_4 : decode cX2_isNeeded 4 = .ok (.aload_n 0, 1) := by decide +kernel
theorem dX2_isNeeded_5 : decode cX2_isNeeded 5 = .ok (.getfield 19, 3) := by decide +kernel
theorem dX2_isNeeded_8 : decode cX2_isNeeded 8 = .ok (.ishl, 1) := by decide +kernel
theorem dX2_isNeeded_9 : decode cX2_isNeeded 9 = .ok (.if_icmp .ge 50, 3) := by decide +kernel
theorem dX2_isNeeded_12 : decode cX2_isNeeded 12 = .ok (.aload_n 0, 1) := by decide +kernel
theorem dX2_isNeeded_13 : decode cX2_isNeeded 13 = .ok (.getfield 16, 3) := by decide +kernel
theorem dX2_isNeeded_16 : decode cX2_isNeeded 16 = .ok (.iload_n 3, 1) := by decide +kernel
theorem dX2_isNeeded_17 : decode cX2_isNeeded 17 = .ok (.iaload, 1) := by decide +kernel
theorem dX2_isNeeded_18 : decode cX2_isNeeded 18 = .ok (.iconst 1, 1) := by decide +kernel
theorem dX2_isNeeded_19 : decode cX2_isNeeded 19 = .ok (.if_icmp .ne 34, 3) := by decide +kernel
theorem dX2_isNeeded_22 : decode cX2_isNeeded 22 = .ok (.aload_n 0, 1) := by decide +kernel
theorem dX2_isNeeded_23 : decode cX2_isNeeded 23 = .ok (.iload_n 3, 1) := by decide +kernel
theorem dX2_isNeeded_24 : decode cX2_isNeeded 24 = .ok (.aload_n 0, 1) := by decide +kernel
theorem dX2_isNeeded_25 : decode cX2_isNeeded 25 = .ok (.getfield 7, 3) := by decide +kernel
theorem dX2_isNeeded_28 : decode cX2_isNeeded 28 = .ok (.bipush 24, 2) := by decide +kernel
theorem dX2_isNeeded_30 : decode cX2_isNeeded 30 = .ok (.iload_n 1, 1) := by decide +kernel
theorem dX2_isNeeded_31 : decode cX2_isNeeded 31 = .ok (.imul, 1) := by decide +kernel
theorem dX2_isNeeded_32 : decode cX2_isNeeded 32 = .ok (.iload_n 2, 1) := by decide +kernel
theorem dX2_isNeeded_33 : decode cX2_isNeeded 33 = .ok (.iadd, 1) := by decide +kernel
theorem dX2_isNeeded_34 : decode cX2_isNeeded 34 = .ok (.iaload, 1) := by decide +kernel
theorem dX2_isNeeded_35 : decode cX2_isNeeded 35 = .ok (.invokevirtual 26, 3) := by decide +kernel
theorem dX2_isNeeded_38 : decode cX2_isNeeded 38 = .ok (.ifCond .eq 15, 3) := by decide +kernel
theorem dX2_isNeeded_41 : decode cX2_isNeeded 41 = .ok (.aload_n 0, 1) := by decide +kernel
theorem dX2_isNeeded_42 : decode cX2_isNeeded 42 = .ok (.iload_n 3, 1) := by decide +kernel
theorem dX2_isNeeded_43 : decode cX2_isNeeded 43 = .ok (.iload_n 1, 1) := by decide +kernel
theorem dX2_isNeeded_44 : decode cX2_isNeeded 44 = .ok (.iload_n 2, 1) := by decide +kernel
theorem dX2_isNeeded_45 : decode cX2_isNeeded 45 = .ok (.invokevirtual 67, 3) := by decide +kernel
theorem dX2_isNeeded_48 : decode cX2_isNeeded 48 = .ok (.ifCond .ne 5, 3) := by decide +kernel
theorem dX2_isNeeded_51 : decode cX2_isNeeded 51 = .ok (.iconst 1, 1) := by decide +kernel
theorem dX2_isNeeded_52 : decode cX2_isNeeded 52 = .ok (.ireturn, 1) := by decide +kernel
theorem dX2_isNeeded_53 : decode cX2_isNeeded 53 = .ok (.iinc 3 1, 3) := by decide +kernel
theorem dX2_isNeeded_56 : decode cX2_isNeeded 56 = .ok (.goto (-54), 3) := by decide +kernel
theorem dX2_isNeeded_59 : decode cX2_isNeeded 59 = .ok (.iconst 0, 1) := by decide +kernel
theorem dX2_isNeeded_60 : decode cX2_isNeeded 60 = .ok (.ireturn, 1) := by decide +kernel
set_option maxRecDepth 20000 in
theorem ggX2_pass_X2_widened : GoodIn wsX2_pass wsX2_widened := goodIn_r _ [7, 8, 9, 10, 11, 6, 12, 13, 14, 15, 16, 17, 26, 27, 28, 29] (by decide +kernel) (by decide +kernel)
set_option maxRecDepth 20000 in
theorem gX2_pass_X2_widened : GoodIn wsX2_pass (wsV RX2 63 RX2 yX2_widened wsX2_widened) := goodIn_app (goodIn_of _ (by decide +kernel)) ggX2_pass_X2_widened
set_option maxRecDepth 20000 in
theorem ggX2_pass_X2_isNeeded : GoodIn wsX2_pass wsX2_isNeeded := goodIn_r _ [21, 8, 13, 2, 14, 15, 16, 6, 17, 22, 23, 24, 25, 1, 26, 27, 28, 29] (by decide +kernel) (by decide +kernel)
set_option maxRecDepth 20000 in
theorem gX2_pass_X2_isNeeded : GoodIn wsX2_pass (wsV RX2 71 RX2 yX2_isNeeded wsX2_isNeeded) := goodIn_app (goodIn_of _ (by decide +kernel)) ggX2_pass_X2_isNeeded
theorem dX2_pass_0 : decode cX2_pass 0 = .ok (.iconst 0, 1) := by decide +kernel
theorem dX2_pass_1 : decode cX2_pass 1 = .ok (.istore_n 3, 1) := by decide +kernel
theorem dX2_pass_2 : decode cX2_pass 2 = .ok (.iload_n 3, 1) := by decide +kernel
theorem dX2_pass_3 : decode cX2_pass 3 = .ok (.aload_n 0, 1) := by decide +kernel
theorem dX2_pass_4 : decode cX2_pass 4 = .ok (.getfield 13, 3) := by decide +kernel
theorem dX2_pass_7 : decode cX2_pass 7 = .ok (.iload_n 1, 1) := by decide +kernel
theorem dX2_pass_8 : decode cX2_pass 8 = .ok (.iaload, 1) := by decide +kernel
theorem dX2_pass_9 : decode cX2_pass 9 = .ok (.if_icmp .ge 40, 3) := by decide +kernel
theorem dX2_pass_12 : decode cX2_pass 12 = .ok (.aload_n 0, 1) := by decide +kernel
theorem dX2_pass_13 : decode cX2_pass 13 = .ok (.aload_n 0, 1) := by decide +kernel
theorem dX2_pass_14 : decode cX2_pass 14 = .ok (.getfield 7, 3) := by decide +kernel
theorem dX2_pass_17 : decode cX2_pass 17 = .ok (.bipush 24, 2) := by decide +kernel
theorem dX2_pass_19 : decode cX2_pass 19 = .ok (.iload_n 1, 1) := by decide +kernel
theorem dX2_pass_20 : decode cX2_pass 20 = .ok (.imul, 1) := by decide +kernel
theorem dX2_pass_21 : decode cX2_pass 21 = .ok (.iload_n 3, 1) := by decide +kernel
theorem dX2_pass_22 : decode cX2_pass 22 = .ok (.iadd, 1) := by decide +kernel
theorem dX2_pass_23 : decode cX2_pass 23 = .ok (.iaload, 1) := by decide +kernel
theorem dX2_pass_24 : decode cX2_pass 24 = .ok (.iload_n 2, 1) := by decide +kernel
theorem dX2_pass_25 : decode cX2_pass 25 = .ok (.invokevirtual 63, 3) := by decide +kernel
theorem dX2_pass_28 : decode cX2_pass 28 = .ok (.istore 4, 2) := by decide +kernel
theorem dX2_pass_30 : decode cX2_pass 30 = .ok (.aload_n 0, 1) := by decide +kernel
theorem dX2_pass_31 : decode cX2_pass 31 = .ok (.getfield 7, 3) := by decide +kernel
theorem dX2_pass_34 : decode cX2_pass 34 = .ok (.bipush 24, 2) := by decide +kernel
theorem dX2_pass_36 : decode cX2_pass 36 = .ok (.iload_n 1, 1) := by decide +kernel
theorem dX2_pass_37 : decode cX2_pass 37 = .ok (.imul, 1) := by decide +kernel
theorem dX2_pass_38 : decode cX2_pass 38 = .ok (.iload_n 3, 1) := by decide +kernel
theorem dX2_pass_39 : decode cX2_pass 39 = .ok (.iadd, 1) := by decide +kernel
theorem dX2_pass_40 : decode cX2_pass 40 = .ok (.iload 4, 2) := by decide +kernel
theorem dX2_pass_42 : decode cX2_pass 42 = .ok (.iastore, 1) := by decide +kernel
theorem dX2_pass_43 : decode cX2_pass 43 = .ok (.iinc 3 1, 3) := by decide +kernel
theorem dX2_pass_46 : decode cX2_pass 46 = .ok (.goto (-44), 3) := by decide +kernel
theorem dX2_pass_49 : decode cX2_pass 49 = .ok (.aload_n 0, 1) := by decide +kernel
theorem dX2_pass_50 : decode cX2_pass 50 = .ok (.getfield 13, 3) := by decide +kernel
theorem dX2_pass_53 : decode cX2_pass 53 = .ok (.iload_n 1, 1) := by decide +kernel
theorem dX2_pass_54 : decode cX2_pass 54 = .ok (.iaload, 1) := by decide +kernel
theorem dX2_pass_55 : decode cX2_pass 55 = .ok (.iconst 1, 1) := by decide +kernel
theorem dX2_pass_56 : decode cX2_pass 56 = .ok (.isub, 1) := by decide +kernel
theorem dX2_pass_57 : decode cX2_pass 57 = .ok (.istore_n 3, 1) := by decide +kernel
theorem dX2_pass_58 : decode cX2_pass 58 = .ok (.iload_n 3, 1) := by decide +kernel
theorem dX2_pass_59 : decode cX2_pass 59 = .ok (.ifCond .lt 76, 3) := by decide +kernel
theorem dX2_pass_62 : decode cX2_pass 62 = .ok (.aload_n 0, 1) := by decide +kernel
theorem dX2_pass_63 : decode cX2_pass 63 = .ok (.iload_n 1, 1) := by decide +kernel
theorem dX2_pass_64 : decode cX2_pass 64 = .ok (.iload_n 3, 1) := by decide +kernel
theorem dX2_pass_65 : decode cX2_pass 65 = .ok (.invokevirtual 71, 3) := by decide +kernel
theorem dX2_pass_68 : decode cX2_pass 68 = .ok (.ifCond .ne 61, 3) := by decide +kernel
theorem dX2_pass_71 : decode cX2_pass 71 = .ok (.iload_n 3, 1) := by decide +kernel
theorem dX2_pass_72 : decode cX2_pass 72 = .ok (.iconst 1, 1) := by decide +kernel
theorem dX2_pass_73 : decode cX2_pass 73 = .ok (.iadd, 1) := by decide +kernel
theorem dX2_pass_74 : decode cX2_pass 74 = .ok (.istore 4, 2) := by decide +kernel
theorem dX2_pass_76 : decode cX2_pass 76 = .ok (.iload 4, 2) := by decide +kernel
theorem dX2_pass_78 : decode cX2_pass 78 = .ok (.aload_n 0, 1) := by decide +kernel
theorem dX2_pass_79 : decode cX2_pass 79 = .ok (.getfield 13, 3) := by decide +kernel
theorem dX2_pass_82 : decode cX2_pass 82 = .ok (.iload_n 1, 1) := by decide +kernel
theorem dX2_pass_83 : decode cX2_pass 83 = .ok (.iaload, 1) := by decide +kernel
theorem dX2_pass_84 : decode cX2_pass 84 = .ok (.if_icmp .ge 35, 3) := by decide +kernel
theorem dX2_pass_87 : decode cX2_pass 87 = .ok (.aload_n 0, 1) := by decide +kernel
theorem dX2_pass_88 : decode cX2_pass 88 = .ok (.getfield 7, 3) := by decide +kernel
theorem dX2_pass_91 : decode cX2_pass 91 = .ok (.bipush 24, 2) := by decide +kernel
theorem dX2_pass_93 : decode cX2_pass 93 = .ok (.iload_n 1, 1) := by decide +kernel
theorem dX2_pass_94 : decode cX2_pass 94 = .ok (.imul, 1) := by decide +kernel
theorem dX2_pass_95 : decode cX2_pass 95 = .ok (.iload 4, 2) := by decide +kernel
theorem dX2_pass_97 : decode cX2_pass 97 = .ok (.iadd, 1) := by decide +kernel
theorem dX2_pass_98 : decode cX2_pass 98 = .ok (.iconst 1, 1) := by decide +kernel
theorem dX2_pass_99 : decode cX2_pass 99 = .ok (.isub, 1) := by decide +kernel
theorem dX2_pass_100 : decode cX2_pass 100 = .ok (.aload_n 0, 1) := by decide +kernel
theorem dX2_pass_101 : decode cX2_pass 101 = .ok (.getfield 7, 3) := by decide +kernel
theorem dX2_pass_104 : decode cX2_pass 104 = .ok (.bipush 24, 2) := by decide +kernel
theorem dX2_pass_106 : decode cX2_pass 106 = .ok (.iload_n 1, 1) := by decide +kernel
theorem dX2_pass_107 : decode cX2_pass 107 = .ok (.imul, 1) := by decide +kernel
theorem dX2_pass_108 : decode cX2_pass 108 = .ok (.iload 4, 2) := by decide +kernel
theorem dX2_pass_110 : decode cX2_pass 110 = .ok (.iadd, 1) := by decide +kernel
theorem dX2_pass_111 : decode cX2_pass 111 = .ok (.iaload, 1) := by decide +kernel
theorem dX2_pass_112 : decode cX2_pass 112 = .ok (.iastore, 1) := by decide +kernel
theorem dX2_pass_113 : decode cX2_pass 113 = .ok (.iinc 4 1, 3) := by decide +kernel
theorem dX2_pass_116 : decode cX2_pass 116 = .ok (.goto (-40), 3) := by decide +kernel
theorem dX2_pass_119 : decode cX2_pass 119 = .ok (.aload_n 0, 1) := by decide +kernel
theorem dX2_pass_120 : decode cX2_pass 120 = .ok (.getfield 13, 3) := by decide +kernel
theorem dX2_pass_123 : decode cX2_pass 123 = .ok (.iload_n 1, 1) := by decide +kernel
theorem dX2_pass_124 : decode cX2_pass 124 = .ok (.dup2, 1) := by decide +kernel
theorem dX2_pass_125 : decode cX2_pass 125 = .ok (.iaload, 1) := by decide +kernel
theorem dX2_pass_126 : decode cX2_pass 126 = .ok (.iconst 1, 1) := by decide +kernel
theorem dX2_pass_127 : decode cX2_pass 127 = .ok (.isub, 1) := by decide +kernel
theorem dX2_pass_128 : decode cX2_pass 128 = .ok (.iastore, 1) := by decide +kernel
theorem dX2_pass_129 : decode cX2_pass 129 = .ok (.iinc 3 (-1), 3) := by decide +kernel
theorem dX2_pass_132 : decode cX2_pass 132 = .ok (.goto (-74), 3) := by decide +kernel
theorem dX2_pass_135 : decode cX2_pass 135 = .ok (.return_, 1) := by decide +kernel
set_option maxRecDepth 20000 in
theorem ggX2_narrow_X2_in : GoodIn wsX2_narrow wsX2_in := goodIn_r _ [9, 2, 14, 15, 16, 17] (by decide +kernel) (by decide +kernel)
set_option maxRecDepth 20000 in
theorem gX2_narrow_X2_in : GoodIn wsX2_narrow (wsV RX2 26 RX2 yX2_in wsX2_in) := goodIn_app (goodIn_of _ (by decide +kernel)) ggX2_narrow_X2_in
set_option maxRecDepth 20000 in
theorem ggX2_narrow_X2_inAnother : GoodIn wsX2_narrow wsX2_inAnother := goodIn_r _ [13, 1, 4, 5, 6, 7, 8, 9, 2, 14, 15, 16, 17] (by decide +kernel) (by decide +kernel)
set_option maxRecDepth 20000 in
theorem gX2_narrow_X2_inAnother : GoodIn wsX2_narrow (wsV RX2 67 RX2 yX2_inAnother wsX2_inAnother) := goodIn_app (goodIn_of _ (by decide +kernel)) ggX2_narrow_X2_inAnother
theorem dX2_narrow_0 : decode cX2_narrow 0 = .ok (.iconst 0, 1) := by decide +kernel
theorem dX2_narrow_1 : decode cX2_narrow 1 = .ok (.istore_n 2, 1) := by decide +kernel
theorem dX2_narrow_2 : decode cX2_narrow 2 = .ok (.iload_n 2, 1) := by decide +kernel
theorem dX2_narrow_3 : decode cX2_narrow 3 = .ok (.aload_n 0, 1) := by decide +kernel
theorem dX2_narrow_4 : decode cX2_narrow 4 = .ok (.getfield 13, 3) := by decide +kernel
theorem dX2_narrow_7 : decode cX2_narrow 7 = .ok (.iload_n 1, 1) := by decide +kernel
theorem dX2_narrow_8 : decode cX2_narrow 8 = .ok (.iaload, 1) := by decide +kernel
theorem dX2_narrow_9 : decode cX2_narrow 9 = .ok (.if_icmp .ge 120, 3) := by decide +kernel
theorem dX2_narrow_12 : decode cX2_narrow 12 = .ok (.iconst 0, 1) := by decide +kernel
theorem dX2_narrow_13 : decode cX2_narrow 13 = .ok (.istore_n 3, 1) := by decide +kernel
theorem dX2_narrow_14 : decode cX2_narrow 14 = .ok (.iconst 0, 1) := by decide +kernel
theorem dX2_narrow_15 : decode cX2_narrow 15 = .ok (.istore 4, 2) := by decide +kernel
theorem dX2_narrow_17 : decode cX2_narrow 17 = .ok (.iload 4, 2) := by decide +kernel
theorem dX2_narrow_19 : decode cX2_narrow 19 = .ok (.iconst 1, 1) := by decide +kernel
theorem dX2_narrow_20 : decode cX2_narrow 20 = .ok (.aload_n 0, 1) := by decide +kernel
theorem dX2_narrow_21 : decode cX2_narrow 21 = .ok (.getfield 19, 3) := by decide +kernel
theorem dX2_narrow_24 : decode cX2_narrow 24 = .ok (.ishl, 1) := by decide +kernel
theorem dX2_narrow_25 : decode cX2_narrow 25 = .ok (.if_icmp .ge 86, 3) := by decide +kernel
theorem dX2_narrow_28 : decode cX2_narrow 28 = .ok (.aload_n 0, 1) := by decide +kernel
theorem dX2_narrow_29 : decode cX2_narrow 29 = .ok (.getfield 16, 3) := by decide +kernel
theorem dX2_narrow_32 : decode cX2_narrow 32 = .ok (.iload 4, 2) := by decide +kernel
theorem dX2_narrow_34 : decode cX2_narrow 34 = .ok (.iaload, 1) := by decide +kernel
theorem dX2_narrow_35 : decode cX2_narrow 35 = .ok (.iconst 1, 1) := by decide +kernel
theorem dX2_narrow_36 : decode cX2_narrow 36 = .ok (.if_icmp .ne 69, 3) := by decide +kernel
theorem dX2_narrow_39 : decode cX2_narrow 39 = .ok (.aload_n 0, 1) := by decide +kernel
theorem dX2_narrow_40 : decode cX2_narrow 40 = .ok (.iload 4, 2) := by decide +kernel
theorem dX2_narrow_42 : decode cX2_narrow 42 = .ok (.aload_n 0, 1) := by decide +kernel
theorem dX2_narrow_43 : decode cX2_narrow 43 = .ok (.getfield 7, 3) := by decide +kernel
theorem dX2_narrow_46 : decode cX2_narrow 46 = .ok (.bipush 24, 2) := by decide +kernel
theorem dX2_narrow_48 : decode cX2_narrow 48 = .ok (.iload_n 1, 1) := by decide +kernel
theorem dX2_narrow_49 : decode cX2_narrow 49 = .ok (.imul, 1) := by decide +kernel
theorem dX2_narrow_50 : decode cX2_narrow 50 = .ok (.iload_n 2, 1) := by decide +kernel
theorem dX2_narrow_51 : decode cX2_narrow 51 = .ok (.iadd, 1) := by decide +kernel
theorem dX2_narrow_52 : decode cX2_narrow 52 = .ok (.iaload, 1) := by decide +kernel
theorem dX2_narrow_53 : decode cX2_narrow 53 = .ok (.invokevirtual 26, 3) := by decide +kernel
theorem dX2_narrow_56 : decode cX2_narrow 56 = .ok (.ifCond .eq 49, 3) := by decide +kernel
theorem dX2_narrow_59 : decode cX2_narrow 59 = .ok (.aload_n 0, 1) := by decide +kernel
theorem dX2_narrow_60 : decode cX2_narrow 60 = .ok (.iload 4, 2) := by decide +kernel
theorem dX2_narrow_62 : decode cX2_narrow 62 = .ok (.iload_n 1, 1) := by decide +kernel
theorem dX2_narrow_63 : decode cX2_narrow 63 = .ok (.iload_n 2, 1) := by decide +kernel
theorem dX2_narrow_64 : decode cX2_narrow 64 = .ok (.invokevirtual 67, 3) := by decide +kernel
theorem dX2_narrow_67 : decode cX2_narrow 67 = .ok (.ifCond .ne 38, 3) := by decide +kernel
theorem dX2_narrow_70 : decode cX2_narrow 70 = .ok (.iconst 0, 1) := by decide +kernel
theorem dX2_narrow_71 : decode cX2_narrow 71 = .ok (.istore 5, 2) := by decide +kernel
theorem dX2_narrow_73 : decode cX2_narrow 73 = .ok (.iload 5, 2) := by decide +kernel
theorem dX2_narrow_75 : decode cX2_narrow 75 = .ok (.aload_n 0, 1) := by decide +kernel
theorem dX2_narrow_76 : decode cX2_narrow 76 = .ok (.getfield 19, 3) := by decide +kernel
theorem dX2_narrow_79 : decode cX2_narrow 79 = .ok (.if_icmp .ge 26, 3) := by decide +kernel
theorem dX2_narrow_82 : decode cX2_narrow 82 = .ok (.iload_n 3, 1) := by decide +kernel
theorem dX2_narrow_83 : decode cX2_narrow 83 = .ok (.iconst 1, 1) := by decide +kernel
theorem dX2_narrow_84 : decode cX2_narrow 84 = .ok (.iconst 2, 1) := by decide +kernel
theorem dX2_narrow_85 : decode cX2_narrow 85 = .ok (.iload 5, 2) := by decide +kernel
theorem dX2_narrow_87 : decode cX2_narrow 87 = .ok (.imul, 1) := by decide +kernel
theorem dX2_narrow_88 : decode cX2_narrow 88 = .ok (.iload 4, 2) := by decide +kernel
theorem dX2_narrow_90 : decode cX2_narrow 90 = .ok (.iload 5, 2) := by decide +kernel
theorem dX2_narrow_92 : decode cX2_narrow 92 = .ok (.ishr, 1) := by decide +kernel
theorem dX2_narrow_93 : decode cX2_narrow 93 = .ok (.iconst 1, 1) := by decide +kernel
theorem dX2_narrow_94 : decode cX2_narrow 94 = .ok (.iand, 1) := by decide +kernel
theorem dX2_narrow_95 : decode cX2_narrow 95 = .ok (.iadd, 1) := by decide +kernel
theorem dX2_narrow_96 : decode cX2_narrow 96 = .ok (.ishl, 1) := by decide +kernel
theorem dX2_narrow_97 : decode cX2_narrow 97 = .ok (.ior, 1) := by decide +kernel
theorem dX2_narrow_98 : decode cX2_narrow 98 = .ok (.istore_n 3, 1) := by decide +kernel
theorem dX2_narrow_99 : decode cX2_narrow 99 = .ok (.iinc 5 1, 3) := by decide +kernel
theorem dX2_narrow_102 : decode cX2_narrow 102 = .ok (.goto (-29), 3) := by decide +kernel
theorem dX2_narrow_105 : decode cX2_narrow 105 = .ok (.iinc 4 1, 3) := by decide +kernel
theorem dX2_narrow_108 : decode cX2_narrow 108 = .ok (.goto (-91), 3) := by decide +kernel
theorem dX2_narrow_111 : decode cX2_narrow 111 = .ok (.aload_n 0, 1) := by decide +kernel
theorem dX2_narrow_112 : decode cX2_narrow 112 = .ok (.getfield 7, 3) := by decide +kernel
theorem dX2_narrow_115 : decode cX2_narrow 115 = .ok (.bipush 24, 2) := by decide +kernel
theorem dX2_narrow_117 : decode cX2_narrow 117 = .ok (.iload_n 1, 1) := by decide +kernel
theorem dX2_narrow_118 : decode cX2_narrow 118 = .ok (.imul, 1) := by decide +kernel
theorem dX2_narrow_119 : decode cX2_narrow 119 = .ok (.iload_n 2, 1) := by decide +kernel
theorem dX2_narrow_120 : decode cX2_narrow 120 = .ok (.iadd, 1) := by decide +kernel
theorem dX2_narrow_121 : decode cX2_narrow 121 = .ok (.iload_n 3, 1) := by decide +kernel
theorem dX2_narrow_122 : decode cX2_narrow 122 = .ok (.iastore, 1) := by decide +kernel
theorem dX2_narrow_123 : decode cX2_narrow 123 = .ok (.iinc 2 1, 3) := by decide +kernel
theorem dX2_narrow_126 : decode cX2_narrow 126 = .ok (.goto (-124), 3) := by decide +kernel
theorem dX2_narrow_129 : decode cX2_narrow 129 = .ok (.return_, 1) := by decide +kernel
theorem dX2_copy_0 : decode cX2_copy 0 = .ok (.iconst 0, 1) := by decide +kernel
theorem dX2_copy_1 : decode cX2_copy 1 = .ok (.istore_n 3, 1) := by decide +kernel
theorem dX2_copy_2 : decode cX2_copy 2 = .ok (.iload_n 3, 1) := by decide +kernel
theorem dX2_copy_3 : decode cX2_copy 3 = .ok (.aload_n 0, 1) := by decide +kernel
theorem dX2_copy_4 : decode cX2_copy 4 = .ok (.getfield 13, 3) := by decide +kernel
theorem dX2_copy_7 : decode cX2_copy 7 = .ok (.iload_n 1, 1) := by decide +kernel
theorem dX2_copy_8 : decode cX2_copy 8 = .ok (.iaload, 1) := by decide +kernel
theorem dX2_copy_9 : decode cX2_copy 9 = .ok (.if_icmp .ge 31, 3) := by decide +kernel
theorem dX2_copy_12 : decode cX2_copy 12 = .ok (.aload_n 0, 1) := by decide +kernel
theorem dX2_copy_13 : decode cX2_copy 13 = .ok (.getfield 7, 3) := by decide +kernel
theorem dX2_copy_16 : decode cX2_copy 16 = .ok (.bipush 24, 2) := by decide +kernel
theorem dX2_copy_18 : decode cX2_copy 18 = .ok (.iload_n 2, 1) := by decide +kernel
theorem dX2_copy_19 : decode cX2_copy 19 = .ok (.imul, 1) := by decide +kernel
theorem dX2_copy_20 : decode cX2_copy 20 = .ok (.iload_n 3, 1) := by decide +kernel
theorem dX2_copy_21 : decode cX2_copy 21 = .ok (.iadd, 1) := by decide +kernel
theorem dX2_copy_22 : decode cX2_copy 22 = .ok (.aload_n 0, 1) := by decide +kernel
theorem dX2_copy_23 : decode cX2_copy 23 = .ok (.getfield 7, 3) := by decide +kernel
theorem dX2_copy_26 : decode cX2_copy 26 = .ok (.bipush 24, 2) := by decide +kernel
theorem dX2_copy_28 : decode cX2_copy 28 = .ok (.iload_n 1, 1) := by decide +kernel
theorem dX2_copy_29 : decode cX2_copy 29 = .ok (.imul, 1) := by decide +kernel
theorem dX2_copy_30 : decode cX2_copy 30 = .ok (.iload_n 3, 1) := by decide +kernel
theorem dX2_copy_31 : decode cX2_copy 31 = .ok (.iadd, 1) := by decide +kernel
theorem dX2_copy_32 : decode cX2_copy 32 = .ok (.iaload, 1) := by decide +kernel
theorem dX2_copy_33 : decode cX2_copy 33 = .ok (.iastore, 1) := by decide +kernel
theorem dX2_copy_34 : decode cX2_copy 34 = .ok (.iinc 3 1, 3) := by decide +kernel
theorem dX2_copy_37 : decode cX2_copy 37 = .ok (.goto (-35), 3) := by decide +kernel
theorem dX2_copy_40 : decode cX2_copy 40 = .ok (.aload_n 0, 1) := by decide +kernel
theorem dX2_copy_41 : decode cX2_copy 41 = .ok (.getfield 13, 3) := by decide +kernel
theorem dX2_copy_44 : decode cX2_copy 44 = .ok (.iload_n 2, 1) := by decide +kernel
theorem dX2_copy_45 : decode cX2_copy 45 = .ok (.aload_n 0, 1) := by decide +kernel
theorem dX2_copy_46 : decode cX2_copy 46 = .ok (.getfield 13, 3) := by decide +kernel
theorem dX2_copy_49 : decode cX2_copy 49 = .ok (.iload_n 1, 1) := by decide +kernel
theorem dX2_copy_50 : decode cX2_copy 50 = .ok (.iaload, 1) := by decide +kernel
theorem dX2_copy_51 : decode cX2_copy 51 = .ok (.iastore, 1) := by decide +kernel
theorem dX2_copy_52 : decode cX2_copy 52 = .ok (.return_, 1) := by decide +kernel
set_option maxRecDepth 20000 in
theorem ggX2_minimize_X2_isVoid : GoodIn wsX2_minimize wsX2_isVoid := goodIn_r _ [7, 8, 46, 47, 48, 49] (by decide +kernel) (by decide +kernel)
set_option maxRecDepth 20000 in
theorem gX2_minimize_X2_isVoid : GoodIn wsX2_minimize (wsV RX2 57 RX2 yX2_isVoid wsX2_isVoid) := goodIn_app (goodIn_of _ (by decide +kernel)) ggX2_minimize_X2_isVoid
set_option maxRecDepth 20000 in
theorem ggX2_minimize_X2_pass : GoodIn wsX2_minimize wsX2_pass := goodIn_r _ [12, 1, 2, 13, 14, 15, 6, 16, 8, 17, 18, 19, 20, 21, 22, 23, 24, 25, 26, 27, 28, 29, 30, 31, 32, 33, 46, 47, 48, 49] (by decide +kernel) (by decide +kernel)
set_option maxRecDepth 20000 in
theorem gX2_minimize_X2_pass : GoodIn wsX2_minimize (wsV RX2 74 RX2 yX2_pass wsX2_pass) := goodIn_app (goodIn_of _ (by decide +kernel)) ggX2_minimize_X2_pass
set_option maxRecDepth 20000 in
theorem ggX2_minimize_X2_copy : GoodIn wsX2_minimize wsX2_copy := goodIn_r _ [37, 1, 2, 46, 47, 48, 49] (by decide +kernel) (by decide +kernel)
set_option maxRecDepth 20000 in
theorem gX2_minimize_X2_copy : GoodIn wsX2_minimize (wsV RX2 78 RX2 yX2_copy wsX2_copy) := goodIn_app (goodIn_of _ (by decide +kernel)) ggX2_minimize_X2_copy
set_option maxRecDepth 20000 in
theorem ggX2_minimize_X2_narrow : GoodIn wsX2_minimize wsX2_narrow := goodIn_r _ [41, 1, 8, 21, 2, 22, 23, 24, 6, 25, 30, 31, 32, 33, 46, 47, 48, 49] (by decide +kernel) (by decide +kernel)
set_option maxRecDepth 20000 in
theorem gX2_minimize_X2_narrow : GoodIn wsX2_minimize (wsV RX2 82 RX2 yX2_narrow wsX2_narrow) := goodIn_app (goodIn_of _ (by decide +kernel)) ggX2_minimize_X2_narrow
set_option maxRecDepth 20000 in
theorem ggX2_minimize_X2_literalsOf : GoodIn wsX2_minimize wsX2_literalsOf := goodIn_r _ [45, 1, 8, 2, 46, 47, 48, 49] (by decide +kernel) (by decide +kernel)
set_option maxRecDepth 20000 in
theorem gX2_minimize_X2_literalsOf : GoodIn wsX2_minimize (wsV RX2 43 RX2 yX2_literalsOf wsX2_literalsOf) := goodIn_app (goodIn_of _ (by decide +kernel)) ggX2_minimize_X2_literalsOf
theorem dX2_minimize_0 : decode cX2_minimize 0 = .ok (.aload_n 0, 1) := by decide +kernel
theorem dX2_minimize_1 : decode cX2_minimize 1 = .ok (.getfield 13, 3) := by decide +kernel
theorem dX2_minimize_4 : decode cX2_minimize 4 = .ok (.iconst 2, 1) := by decide +kernel
theorem dX2_minimize_5 : decode cX2_minimize 5 = .ok (.iconst 0, 1) := by decide +kernel
theorem dX2_minimize_6 : decode cX2_minimize 6 = .ok (.iastore, 1) := by decide +kernel
theorem dX2_minimize_7 : decode cX2_minimize 7 = .ok (.iconst 0, 1) := by decide +kernel
theorem dX2_minimize_8 : decode cX2_minimize 8 = .ok (.istore_n 1, 1) := by decide +kernel
theorem dX2_minimize_9 : decode cX2_minimize 9 = .ok (.iload_n 1, 1) := by decide +kernel
theorem dX2_minimize_10 : decode cX2_minimize 10 = .ok (.aload_n 0, 1) := by decide +kernel
theorem dX2_minimize_11 : decode cX2_minimize 11 = .ok (.getfield 13, 3) := by decide +kernel
theorem dX2_minimize_14 : decode cX2_minimize 14 = .ok (.iconst 0, 1) := by decide +kernel
theorem dX2_minimize_15 : decode cX2_minimize 15 = .ok (.iaload, 1) := by decide +kernel
theorem dX2_minimize_16 : decode cX2_minimize 16 = .ok (.if_icmp .ge 52, 3) := by decide +kernel
theorem dX2_minimize_19 : decode cX2_minimize 19 = .ok (.aload_n 0, 1) := by decide +kernel
theorem dX2_minimize_20 : decode cX2_minimize 20 = .ok (.aload_n 0, 1) := by decide +kernel
theorem dX2_minimize_21 : decode cX2_minimize 21 = .ok (.getfield 7, 3) := by decide +kernel
theorem dX2_minimize_24 : decode cX2_minimize 24 = .ok (.iload_n 1, 1) := by decide +kernel
theorem dX2_minimize_25 : decode cX2_minimize 25 = .ok (.iaload, 1) := by decide +kernel
theorem dX2_minimize_26 : decode cX2_minimize 26 = .ok (.invokevirtual 57, 3) := by decide +kernel
theorem dX2_minimize_29 : decode cX2_minimize 29 = .ok (.ifCond .ne 33, 3) := by decide +kernel
theorem dX2_minimize_32 : decode cX2_minimize 32 = .ok (.aload_n 0, 1) := by decide +kernel
theorem dX2_minimize_33 : decode cX2_minimize 33 = .ok (.getfield 7, 3) := by decide +kernel
theorem dX2_minimize_36 : decode cX2_minimize 36 = .ok (.bipush 48, 2) := by decide +kernel
theorem dX2_minimize_38 : decode cX2_minimize 38 = .ok (.aload_n 0, 1) := by decide +kernel
theorem dX2_minimize_39 : decode cX2_minimize 39 = .ok (.getfield 13, 3) := by decide +kernel
theorem dX2_minimize_42 : decode cX2_minimize 42 = .ok (.iconst 2, 1) := by decide +kernel
theorem dX2_minimize_43 : decode cX2_minimize 43 = .ok (.iaload, 1) := by decide +kernel
theorem dX2_minimize_44 : decode cX2_minimize 44 = .ok (.iadd, 1) := by decide +kernel
theorem dX2_minimize_45 : decode cX2_minimize 45 = .ok (.aload_n 0, 1) := by decide +kernel
theorem dX2_minimize_46 : decode cX2_minimize 46 = .ok (.getfield 7, 3) := by decide +kernel
theorem dX2_minimize_49 : decode cX2_minimize 49 = .ok (.iload_n 1, 1) := by decide +kernel
theorem dX2_minimize_50 : decode cX2_minimize 50 = .ok (.iaload, 1) := by decide +kernel
theorem dX2_minimize_51 : decode cX2_minimize 51 = .ok (.iastore, 1) := by decide +kernel
theorem dX2_minimize_52 : decode cX2_minimize 52 = .ok (.aload_n 0, 1) := by decide +kernel
theorem dX2_minimize_53 : decode cX2_minimize 53 = .ok (.getfield 13, 3) := by decide +kernel
theorem dX2_minimize_56 : decode cX2_minimize 56 = .ok (.iconst 2, 1) := by decide +kernel
theorem dX2_minimize_57 : decode cX2_minimize 57 = .ok (.dup2, 1) := by decide +kernel
theorem dX2_minimize_58 : decode cX2_minimize 58 = .ok (.iaload, 1) := by decide +kernel
theorem dX2_minimize_59 : decode cX2_minimize 59 = .ok (.iconst 1, 1) := by decide +kernel
theorem dX2_minimize_60 : decode cX2_minimize 60 = .ok (.iadd, 1) := by decide +kernel
theorem dX2_minimize_61 : decode cX2_minimize 61 = .ok (.iastore, 1) := by decide +kernel
theorem dX2_minimize_62 : decode cX2_minimize 62 = .ok (.iinc 1 1, 3) := by decide +kernel
theorem dX2_minimize_65 : decode cX2_minimize 65 = .ok (.goto (-56), 3) := by decide +kernel
theorem dX2_minimize_68 : decode cX2_minimize 68 = .ok (.aload_n 0, 1) := by decide +kernel
theorem dX2_minimize_69 : decode cX2_minimize 69 = .ok (.iconst 2, 1) := by decide +kernel
theorem dX2_minimize_70 : decode cX2_minimize 70 = .ok (.iconst 1, 1) := by decide +kernel
theorem dX2_minimize_71 : decode cX2_minimize 71 = .ok (.invokevirtual 74, 3) := by decide +kernel
theorem dX2_minimize_74 : decode cX2_minimize 74 = .ok (.iconst 1, 1) := by decide +kernel
theorem dX2_minimize_75 : decode cX2_minimize 75 = .ok (.istore_n 1, 1) := by decide +kernel
theorem dX2_minimize_76 : decode cX2_minimize 76 = .ok (.iconst 1, 1) := by decide +kernel
theorem dX2_minimize_77 : decode cX2_minimize 77 = .ok (.istore_n 2, 1) := by decide +kernel
theorem dX2_minimize_78 : decode cX2_minimize 78 = .ok (.iload_n 2, 1) := by decide +kernel
theorem dX2_minimize_79 : decode cX2_minimize 79 = .ok (.bipush 8, 2) := by decide +kernel
theorem dX2_minimize_81 : decode cX2_minimize 81 = .ok (.if_icmp .gt 99, 3) := by decide +kernel
theorem dX2_minimize_84 : decode cX2_minimize 84 = .ok (.iload_n 1, 1) := by decide +kernel
theorem dX2_minimize_85 : decode cX2_minimize 85 = .ok (.ifCond .eq 95, 3) := by decide +kernel
theorem dX2_minimize_88 : decode cX2_minimize 88 = .ok (.aload_n 0, 1) := by decide +kernel
theorem dX2_minimize_89 : decode cX2_minimize 89 = .ok (.iconst 2, 1) := by decide +kernel
theorem dX2_minimize_90 : decode cX2_minimize 90 = .ok (.iconst 3, 1) := by decide +kernel
theorem dX2_minimize_91 : decode cX2_minimize 91 = .ok (.invokevirtual 78, 3) := by decide +kernel
theorem dX2_minimize_94 : decode cX2_minimize 94 = .ok (.aload_n 0, 1) := by decide +kernel
theorem dX2_minimize_95 : decode cX2_minimize 95 = .ok (.iconst 3, 1) := by decide +kernel
theorem dX2_minimize_96 : decode cX2_minimize 96 = .ok (.invokevirtual 82, 3) := by decide +kernel
theorem dX2_minimize_99 : decode cX2_minimize 99 = .ok (.aload_n 0, 1) := by decide +kernel
theorem dX2_minimize_100 : decode cX2_minimize 100 = .ok (.iconst 3, 1) := by decide +kernel
theorem dX2_minimize_101 : decode cX2_minimize 101 = .ok (.iload_n 2, 1) := by decide +kernel
theorem dX2_minimize_102 : decode cX2_minimize 102 = .ok (.iconst 2, 1) := by decide +kernel
theorem dX2_minimize_103 : decode cX2_minimize 103 = .ok (.irem, 1) := by decide +kernel
theorem dX2_minimize_104 : decode cX2_minimize 104 = .ok (.ifCond .ne 7, 3) := by decide +kernel
theorem dX2_minimize_107 : decode cX2_minimize 107 = .ok (.iconst 1, 1) := by decide +kernel
theorem dX2_minimize_108 : decode cX2_minimize 108 = .ok (.goto 4, 3) := by decide +kernel
theorem dX2_minimize_111 : decode cX2_minimize 111 = .ok (.iconst 0, 1) := by decide +kernel
theorem dX2_minimize_112 : decode cX2_minimize 112 = .ok (.invokevirtual 74, 3) := by decide +kernel
theorem dX2_minimize_115 : decode cX2_minimize 115 = .ok (.aload_n 0, 1) := by decide +kernel
theorem dX2_minimize_116 : decode cX2_minimize 116 = .ok (.getfield 13, 3) := by decide +kernel
theorem dX2_minimize_119 : decode cX2_minimize 119 = .ok (.iconst 3, 1) := by decide +kernel
theorem dX2_minimize_120 : decode cX2_minimize 120 = .ok (.iaload, 1) := by decide +kernel
theorem dX2_minimize_121 : decode cX2_minimize 121 = .ok (.aload_n 0, 1) := by decide +kernel
theorem dX2_minimize_122 : decode cX2_minimize 122 = .ok (.getfield 13, 3) := by decide +kernel
theorem dX2_minimize_125 : decode cX2_minimize 125 = .ok (.iconst 2, 1) := by decide +kernel
theorem dX2_minimize_126 : decode cX2_minimize 126 = .ok (.iaload, 1) := by decide +kernel
theorem dX2_minimize_127 : decode cX2_minimize 127 = .ok (.if_icmp .lt 31, 3) := by decide +kernel
theorem dX2_minimize_130 : decode cX2_minimize 130 = .ok (.aload_n 0, 1) := by decide +kernel
theorem dX2_minimize_131 : decode cX2_minimize 131 = .ok (.getfield 13, 3) := by decide +kernel
theorem dX2_minimize_134 : decode cX2_minimize 134 = .ok (.iconst 3, 1) := by decide +kernel
theorem dX2_minimize_135 : decode cX2_minimize 135 = .ok (.iaload, 1) := by decide +kernel
theorem dX2_minimize_136 : decode cX2_minimize 136 = .ok (.aload_n 0, 1) := by decide +kernel
theorem dX2_minimize_137 : decode cX2_minimize 137 = .ok (.getfield 13, 3) := by decide +kernel
theorem dX2_minimize_140 : decode cX2_minimize 140 = .ok (.iconst 2, 1) := by decide +kernel
theorem dX2_minimize_141 : decode cX2_minimize 141 = .ok (.iaload, 1) := by decide +kernel
theorem dX2_minimize_142 : decode cX2_minimize 142 = .ok (.if_icmp .ne 20, 3) := by decide +kernel
theorem dX2_minimize_145 : decode cX2_minimize 145 = .ok (.aload_n 0, 1) := by decide +kernel
theorem dX2_minimize_146 : decode cX2_minimize 146 = .ok (.iconst 3, 1) := by decide +kernel
theorem dX2_minimize_147 : decode cX2_minimize 147 = .ok (.invokevirtual 43, 3) := by decide +kernel
theorem dX2_minimize_150 : decode cX2_minimize 150 = .ok (.aload_n 0, 1) := by decide +kernel
theorem dX2_minimize_151 : decode cX2_minimize 151 = .ok (.iconst 2, 1) := by decide +kernel
theorem dX2_minimize_152 : decode cX2_minimize 152 = .ok (.invokevirtual 43, 3) := by decide +kernel
theorem dX2_minimize_155 : decode cX2_minimize 155 = .ok (.if_icmp .ge 7, 3) := by decide +kernel
theorem dX2_minimize_158 : decode cX2_minimize 158 = .ok (.iconst 1, 1) := by decide +kernel
theorem dX2_minimize_159 : decode cX2_minimize 159 = .ok (.goto 4, 3) := by decide +kernel
theorem dX2_minimize_162 : decode cX2_minimize 162 = .ok (.iconst 0, 1) := by decide +kernel
theorem dX2_minimize_163 : decode cX2_minimize 163 = .ok (.istore_n 1, 1) := by decide +kernel
theorem dX2_minimize_164 : decode cX2_minimize 164 = .ok (.iload_n 1, 1) := by decide +kernel
theorem dX2_minimize_165 : decode cX2_minimize 165 = .ok (.ifCond .eq 9, 3) := by decide +kernel
theorem dX2_minimize_168 : decode cX2_minimize 168 = .ok (.aload_n 0, 1) := by decide +kernel
theorem dX2_minimize_169 : decode cX2_minimize 169 = .ok (.iconst 3, 1) := by decide +kernel
theorem dX2_minimize_170 : decode cX2_minimize 170 = .ok (.iconst 2, 1) := by decide +kernel
theorem dX2_minimize_171 : decode cX2_minimize 171 = .ok (.invokevirtual 78, 3) := by decide +kernel
theorem dX2_minimize_174 : decode cX2_minimize 174 = .ok (.iinc 2 1, 3) := by decide +kernel
theorem dX2_minimize_177 : decode cX2_minimize 177 = .ok (.goto (-99), 3) := by decide +kernel
theorem dX2_minimize_180 : decode cX2_minimize 180 = .ok (.aload_n 0, 1) := by decide +kernel
theorem dX2_minimize_181 : decode cX2_minimize 181 = .ok (.getfield 13, 3) := by decide +kernel
theorem dX2_minimize_184 : decode cX2_minimize 184 = .ok (.iconst 2, 1) := by decide +kernel
theorem dX2_minimize_185 : decode cX2_minimize 185 = .ok (.iaload, 1) := by decide +kernel
theorem dX2_minimize_186 : decode cX2_minimize 186 = .ok (.ireturn, 1) := by decide +kernel
set_option maxRecDepth 20000 in
theorem ggL_law_X1_init : GoodIn wsL_law wsX1_init := goodIn_r _ [8, 9, 10, 11, 12, 13, 14, 15, 16, 17, 18, 19, 20, 21, 22, 23, 24, 25, 26, 27, 28, 29, 30, 31, 2, 32, 33, 34, 35, 36, 37, 38, 39, 40, 41, 369, 370, 357, 358, 359, 360, 361, 362, 363, 364] (by decide +kernel) (by decide +kernel)
set_option maxRecDepth 20000 in
theorem gL_law_X1_init : GoodIn wsL_law (wsX1_init) := ggL_law_X1_init
set_option maxRecDepth 20000 in
theorem ggL_law_X2_init : GoodIn wsL_law wsX2_init := goodIn_r _ [44, 45, 10, 11, 19, 46, 47, 48, 49, 365, 366, 367, 368] (by decide +kernel) (by decide +kernel)
set_option maxRecDepth 20000 in
theorem gL_law_X2_init : GoodIn wsL_law (wsX2_init) := ggL_law_X2_init
set_option maxRecDepth 20000 in
theorem ggL_law_X1_start : GoodIn wsL_law wsX1_start := goodIn_r _ [53, 29, 30, 31, 2, 32, 33, 15, 16, 17, 21, 34, 35, 36, 14, 37, 28, 38, 39, 40, 41, 20, 357, 358, 359, 360, 361, 362, 363, 364, 369, 370] (by decide +kernel) (by decide +kernel)
set_option maxRecDepth 20000 in
theorem gL_law_X1_start : GoodIn wsL_law (wsV RL 13 RX1 yX1_start wsX1_start) := goodIn_app (goodIn_of _ (by decide +kernel)) ggL_law_X1_start
set_option maxRecDepth 20000 in
theorem ggL_law_X2_start : GoodIn wsL_law wsX2_start := goodIn_r _ [57, 49, 47, 58, 59, 60, 5, 61, 48, 62, 63, 64, 65, 46, 66, 67, 68, 69, 365, 366, 367, 368] (by decide +kernel) (by decide +kernel)
set_option maxRecDepth 20000 in
theorem gL_law_X2_start : GoodIn wsL_law (wsV RL 17 RX2 yX2_start wsX2_start) := goodIn_app (goodIn_of _ (by decide +kernel)) ggL_law_X2_start
set_option maxRecDepth 20000 in
theorem ggL_law_X1_inputs : GoodIn wsL_law wsX1_inputs := goodIn_r _ [73, 33, 357, 358, 359, 360, 361, 362, 363, 364] (by decide +kernel) (by decide +kernel)
set_option maxRecDepth 20000 in
theorem gL_law_X1_inputs : GoodIn wsL_law (wsV RL 18 RX1 yX1_inputs wsX1_inputs) := goodIn_app (goodIn_of _ (by decide +kernel)) ggL_law_X1_inputs
set_option maxRecDepth 20000 in
theorem ggL_law_X2_inputs : GoodIn wsL_law wsX2_inputs := goodIn_r _ [77, 49, 365, 366, 367, 368] (by decide +kernel) (by decide +kernel)
set_option maxRecDepth 20000 in
theorem gL_law_X2_inputs : GoodIn wsL_law (wsV RL 22 RX2 yX2_inputs wsX2_inputs) := goodIn_app (goodIn_of _ (by decide +kernel)) ggL_law_X2_inputs
set_option maxRecDepth 20000 in
theorem ggL_law_X1_on : GoodIn wsL_law wsX1_on := goodIn_r _ [81, 15, 17, 82, 83, 84, 2, 85, 33, 86, 87, 88, 14, 89, 28, 27, 90, 91, 92, 93, 21, 94, 95, 96, 97, 98, 99, 100, 101, 20, 34, 35, 36, 37, 357, 358, 359, 360, 361, 362, 363, 364, 369, 370] (by decide +kernel) (by decide +kernel)
set_option maxRecDepth 20000 in
theorem gL_law_X1_on : GoodIn wsL_law (wsV RL 23 RX1 yX1_on wsX1_on) := goodIn_app (goodIn_of _ (by decide +kernel)) ggL_law_X1_on
set_option maxRecDepth 20000 in
theorem ggL_law_X2_on : GoodIn wsL_law wsX2_on := goodIn_r _ [105, 106, 107, 108, 5, 109, 47, 46, 110, 111, 112, 113, 49, 58, 59, 60, 61, 48, 62, 63, 64, 65, 66, 67, 68, 69, 365, 366, 367, 368] (by decide +kernel) (by decide +kernel)
set_option maxRecDepth 20000 in
theorem gL_law_X2_on : GoodIn wsL_law (wsV RL 26 RX2 yX2_on wsX2_on) := goodIn_app (goodIn_of _ (by decide +kernel)) ggL_law_X2_on
set_option maxRecDepth 20000 in
theorem ggL_law_X1_dc : GoodIn wsL_law wsX1_dc := goodIn_r _ [117, 16, 17, 82, 83, 84, 2, 85, 33, 86, 87, 88, 14, 89, 28, 27, 118, 119, 120, 121, 21, 94, 95, 96, 97, 98, 99, 100, 101, 20, 34, 35, 36, 37, 357, 358, 359, 360, 361, 362, 363, 364, 369, 370] (by decide +kernel) (by decide +kernel)
set_option maxRecDepth 20000 in
theorem gL_law_X1_dc : GoodIn wsL_law (wsV RL 27 RX1 yX1_dc wsX1_dc) := goodIn_app (goodIn_of _ (by decide +kernel)) ggL_law_X1_dc
set_option maxRecDepth 20000 in
theorem ggL_law_X2_dc : GoodIn wsL_law wsX2_dc := goodIn_r _ [125, 106, 107, 108, 5, 109, 47, 46, 110, 111, 112, 113, 49, 58, 59, 60, 61, 48, 62, 63, 64, 65, 66, 67, 68, 69, 365, 366, 367, 368] (by decide +kernel) (by decide +kernel)
set_option maxRecDepth 20000 in
theorem gL_law_X2_dc : GoodIn wsL_law (wsV RL 30 RX2 yX2_dc wsX2_dc) := goodIn_app (goodIn_of _ (by decide +kernel)) ggL_law_X2_dc
set_option maxRecDepth 20000 in
theorem ggL_law_X1_size : GoodIn wsL_law wsX1_size := goodIn_r _ [129, 130, 131, 132, 2, 133, 15, 16, 17, 134, 135, 136, 14, 137, 28, 357, 358, 359, 360, 361, 362, 363, 364, 369, 370] (by decide +kernel) (by decide +kernel)
set_option maxRecDepth 20000 in
theorem gL_law_X1_size : GoodIn wsL_law (wsV RL 31 RX1 yX1_size wsX1_size) := goodIn_app (goodIn_of _ (by decide +kernel)) ggL_law_X1_size
set_option maxRecDepth 20000 in
theorem ggL_law_X2_size : GoodIn wsL_law wsX2_size := goodIn_r _ [141, 47, 142, 143, 5, 144, 365, 366, 367, 368] (by decide +kernel) (by decide +kernel)
set_option maxRecDepth 20000 in
theorem gL_law_X2_size : GoodIn wsL_law (wsV RL 35 RX2 yX2_size wsX2_size) := goodIn_app (goodIn_of _ (by decide +kernel)) ggL_law_X2_size
set_option maxRecDepth 20000 in
theorem ggL_law_X1_cube : GoodIn wsL_law wsX1_cube := goodIn_r _ [148, 130, 131, 132, 2, 133, 15, 16, 17, 149, 150, 151, 14, 152, 28, 27, 357, 358, 359, 360, 361, 362, 363, 364, 369, 370] (by decide +kernel) (by decide +kernel)
set_option maxRecDepth 20000 in
theorem gL_law_X1_cube : GoodIn wsL_law (wsV RL 36 RX1 yX1_cube wsX1_cube) := goodIn_app (goodIn_of _ (by decide +kernel)) ggL_law_X1_cube
set_option maxRecDepth 20000 in
theorem ggL_law_X2_cube : GoodIn wsL_law wsX2_cube := goodIn_r _ [156, 47, 46, 142, 143, 5, 144, 365, 366, 367, 368] (by decide +kernel) (by decide +kernel)
set_option maxRecDepth 20000 in
theorem gL_law_X2_cube : GoodIn wsL_law (wsV RL 40 RX2 yX2_cube wsX2_cube) := goodIn_app (goodIn_of _ (by decide +kernel)) ggL_law_X2_cube
set_option maxRecDepth 20000 in
theorem ggL_law_X1_literals : GoodIn wsL_law wsX1_literals := goodIn_r _ [160, 130, 131, 132, 2, 133, 15, 16, 17, 161, 162, 163, 164, 33, 134, 135, 136, 14, 137, 28, 149, 150, 151, 152, 27, 165, 166, 167, 357, 358, 359, 360, 361, 362, 363, 364, 369, 370] (by decide +kernel) (by decide +kernel)
set_option maxRecDepth 20000 in
theorem gL_law_X1_literals : GoodIn wsL_law (wsV RL 41 RX1 yX1_literals wsX1_literals) := goodIn_app (goodIn_of _ (by decide +kernel)) ggL_law_X1_literals
set_option maxRecDepth 20000 in
theorem ggL_law_X2_literals : GoodIn wsL_law wsX2_literals := goodIn_r _ [171, 142, 143, 5, 144, 172, 173, 174, 175, 47, 49, 46, 365, 366, 367, 368] (by decide +kernel) (by decide +kernel)
set_option maxRecDepth 20000 in
theorem gL_law_X2_literals : GoodIn wsL_law (wsV RL 44 RX2 yX2_literals wsX2_literals) := goodIn_app (goodIn_of _ (by decide +kernel)) ggL_law_X2_literals
set_option maxRecDepth 20000 in
theorem ggL_law_X1_kind : GoodIn wsL_law wsX1_kind := goodIn_r _ [179, 21, 180, 181, 182, 2, 183, 94, 95, 96, 97, 33, 357, 358, 359, 360, 361, 362, 363, 364] (by decide +kernel) (by decide +kernel)
set_option maxRecDepth 20000 in
theorem gL_law_X1_kind : GoodIn wsL_law (wsV RL 45 RX1 yX1_kind wsX1_kind) := goodIn_app (goodIn_of _ (by decide +kernel)) ggL_law_X1_kind
set_option maxRecDepth 20000 in
theorem ggL_law_X2_kind : GoodIn wsL_law wsX2_kind := goodIn_r _ [187, 48, 188, 189, 190, 5, 191, 49, 365, 366, 367, 368] (by decide +kernel) (by decide +kernel)
set_option maxRecDepth 20000 in
theorem gL_law_X2_kind : GoodIn wsL_law (wsV RL 48 RX2 yX2_kind wsX2_kind) := goodIn_app (goodIn_of _ (by decide +kernel)) ggL_law_X2_kind
set_option maxRecDepth 20000 in
theorem ggL_law_X1_holds : GoodIn wsL_law wsX1_holds := goodIn_r _ [195, 130, 131, 132, 2, 133, 15, 16, 17, 180, 181, 182, 183, 94, 95, 96, 97, 33, 196, 197, 198, 199, 134, 135, 136, 14, 137, 28, 149, 150, 151, 152, 27, 98, 99, 100, 101, 20, 357, 358, 359, 360, 361, 362, 363, 364, 369, 370] (by decide +kernel) (by decide +kernel)
set_option maxRecDepth 20000 in
theorem gL_law_X1_holds : GoodIn wsL_law (wsV RL 49 RX1 yX1_holds wsX1_holds) := goodIn_app (goodIn_of _ (by decide +kernel)) ggL_law_X1_holds
set_option maxRecDepth 20000 in
theorem ggL_law_X2_holds : GoodIn wsL_law wsX2_holds := goodIn_r _ [203, 142, 143, 5, 144, 188, 189, 190, 191, 49, 62, 63, 64, 65, 47, 46, 66, 67, 68, 69, 365, 366, 367, 368] (by decide +kernel) (by decide +kernel)
set_option maxRecDepth 20000 in
theorem gL_law_X2_holds : GoodIn wsL_law (wsV RL 53 RX2 yX2_holds wsX2_holds) := goodIn_app (goodIn_of _ (by decide +kernel)) ggL_law_X2_holds
set_option maxRecDepth 20000 in
theorem ggL_law_X1_missing : GoodIn wsL_law wsX1_missing := goodIn_r _ [207, 130, 131, 132, 2, 133, 15, 16, 17, 208, 209, 210, 211, 94, 95, 96, 97, 33, 196, 197, 198, 199, 134, 135, 136, 14, 137, 28, 149, 150, 151, 152, 27, 98, 99, 100, 101, 20, 357, 358, 359, 360, 361, 362, 363, 364, 369, 370] (by decide +kernel) (by decide +kernel)
set_option maxRecDepth 20000 in
theorem gL_law_X1_missing : GoodIn wsL_law (wsV RL 54 RX1 yX1_missing wsX1_missing) := goodIn_app (goodIn_of _ (by decide +kernel)) ggL_law_X1_missing
set_option maxRecDepth 20000 in
theorem ggL_law_X2_missing : GoodIn wsL_law wsX2_missing := goodIn_r _ [215, 49, 142, 143, 5, 144, 62, 63, 64, 65, 47, 46, 66, 67, 68, 69, 365, 366, 367, 368] (by decide +kernel) (by decide +kernel)
set_option maxRecDepth 20000 in
theorem gL_law_X2_missing : GoodIn wsL_law (wsV RL 57 RX2 yX2_missing wsX2_missing) := goodIn_app (goodIn_of _ (by decide +kernel)) ggL_law_X2_missing
set_option maxRecDepth 20000 in
theorem ggL_law_X1_tautology : GoodIn wsL_law wsX1_tautology := goodIn_r _ [219, 130, 131, 132, 2, 133, 15, 16, 17, 208, 209, 210, 211, 94, 95, 96, 97, 33, 196, 197, 198, 199, 134, 135, 136, 14, 137, 28, 149, 150, 151, 152, 27, 98, 99, 100, 101, 20, 357, 358, 359, 360, 361, 362, 363, 364, 369, 370] (by decide +kernel) (by decide +kernel)
set_option maxRecDepth 20000 in
theorem gL_law_X1_tautology : GoodIn wsL_law (wsV RL 58 RX1 yX1_tautology wsX1_tautology) := goodIn_app (goodIn_of _ (by decide +kernel)) ggL_law_X1_tautology
set_option maxRecDepth 20000 in
theorem ggL_law_X2_tautology : GoodIn wsL_law wsX2_tautology := goodIn_r _ [223, 224, 213, 214, 5, 215, 49, 142, 143, 144, 62, 63, 64, 65, 47, 46, 66, 67, 68, 69, 365, 366, 367, 368] (by decide +kernel) (by decide +kernel)
set_option maxRecDepth 20000 in
theorem gL_law_X2_tautology : GoodIn wsL_law (wsV RL 61 RX2 yX2_tautology wsX2_tautology) := goodIn_app (goodIn_of _ (by decide +kernel)) ggL_law_X2_tautology
set_option maxRecDepth 20000 in
theorem ggL_law_X1_same : GoodIn wsL_law wsX1_same := goodIn_r _ [228, 130, 131, 132, 2, 133, 15, 16, 17, 229, 230, 231, 232, 21, 94, 95, 96, 97, 33, 196, 197, 198, 199, 134, 135, 136, 14, 137, 28, 149, 150, 151, 152, 27, 98, 99, 100, 101, 20, 357, 358, 359, 360, 361, 362, 363, 364, 369, 370] (by decide +kernel) (by decide +kernel)
set_option maxRecDepth 20000 in
theorem gL_law_X1_same : GoodIn wsL_law (wsV RL 62 RX1 yX1_same wsX1_same) := goodIn_app (goodIn_of _ (by decide +kernel)) ggL_law_X1_same
set_option maxRecDepth 20000 in
theorem ggL_law_X2_same : GoodIn wsL_law wsX2_same := goodIn_r _ [236, 49, 48, 142, 143, 5, 144, 62, 63, 64, 65, 47, 46, 66, 67, 68, 69, 365, 366, 367, 368] (by decide +kernel) (by decide +kernel)
set_option maxRecDepth 20000 in
theorem gL_law_X2_same : GoodIn wsL_law (wsV RL 65 RX2 yX2_same wsX2_same) := goodIn_app (goodIn_of _ (by decide +kernel)) ggL_law_X2_same
set_option maxRecDepth 20000 in
theorem ggL_law_X1_prime : GoodIn wsL_law wsX1_prime := goodIn_r _ [240, 130, 131, 132, 2, 133, 15, 16, 17, 149, 150, 151, 14, 152, 28, 27, 241, 242, 243, 244, 33, 245, 246, 247, 248, 21, 94, 95, 96, 97, 98, 99, 100, 101, 20, 249, 250, 251, 252, 165, 166, 167, 357, 358, 359, 360, 361, 362, 363, 364, 369, 370] (by decide +kernel) (by decide +kernel)
set_option maxRecDepth 20000 in
theorem gL_law_X1_prime : GoodIn wsL_law (wsV RL 66 RX1 yX1_prime wsX1_prime) := goodIn_app (goodIn_of _ (by decide +kernel)) ggL_law_X1_prime
set_option maxRecDepth 20000 in
theorem ggL_law_X2_prime : GoodIn wsL_law wsX2_prime := goodIn_r _ [256, 49, 257, 154, 155, 5, 156, 47, 46, 142, 143, 144, 258, 259, 260, 261, 262, 263, 264, 265, 48, 66, 67, 68, 69, 365, 366, 367, 368] (by decide +kernel) (by decide +kernel)
set_option maxRecDepth 20000 in
theorem gL_law_X2_prime : GoodIn wsL_law (wsV RL 69 RX2 yX2_prime wsX2_prime) := goodIn_app (goodIn_of _ (by decide +kernel)) ggL_law_X2_prime
set_option maxRecDepth 20000 in
theorem ggL_law_X1_widen : GoodIn wsL_law wsX1_widen := goodIn_r _ [269, 82, 83, 84, 2, 85, 33, 241, 242, 243, 244, 245, 246, 247, 248, 21, 94, 95, 96, 97, 98, 99, 100, 101, 20, 270, 271, 272, 273, 165, 166, 167, 357, 358, 359, 360, 361, 362, 363, 364] (by decide +kernel) (by decide +kernel)
set_option maxRecDepth 20000 in
theorem gL_law_X1_widen : GoodIn wsL_law (wsV RL 70 RX1 yX1_widen wsX1_widen) := goodIn_app (goodIn_of _ (by decide +kernel)) ggL_law_X1_widen
set_option maxRecDepth 20000 in
theorem ggL_law_X2_widen : GoodIn wsL_law wsX2_widen := goodIn_r _ [277, 110, 111, 112, 5, 113, 49, 258, 259, 260, 261, 262, 263, 264, 265, 48, 66, 67, 68, 69, 278, 279, 280, 281, 365, 366, 367, 368] (by decide +kernel) (by decide +kernel)
set_option maxRecDepth 20000 in
theorem gL_law_X2_widen : GoodIn wsL_law (wsV RL 73 RX2 yX2_widen wsX2_widen) := goodIn_app (goodIn_of _ (by decide +kernel)) ggL_law_X2_widen
set_option maxRecDepth 20000 in
theorem ggL_law_X1_minimize : GoodIn wsL_law wsX1_minimize := goodIn_r _ [285, 17, 18, 286, 287, 288, 2, 289, 15, 34, 35, 36, 14, 37, 28, 134, 135, 136, 137, 149, 150, 151, 152, 27, 241, 242, 243, 244, 33, 86, 87, 88, 89, 290, 291, 292, 293, 270, 271, 272, 273, 165, 166, 167, 245, 246, 247, 248, 21, 94, 95, 96, 97, 98, 99, 100, 101, 20, 294, 295, 296, 297, 298, 299, 300, 301, 302, 303, 304, 305, 22, 306, 307, 308, 309, 310, 311, 312, 313, 314, 315, 316, 317, 318, 319, 320, 321, 322, 323, 324, 325, 326, 327, 328, 329, 330, 331, 332, 161, 162, 163, 164, 357, 358, 359, 360, 361, 362, 363, 364, 369, 370] (by decide +kernel) (by decide +kernel)
set_option maxRecDepth 20000 in
theorem gL_law_X1_minimize : GoodIn wsL_law (wsV RL 74 RX1 yX1_minimize wsX1_minimize) := goodIn_app (goodIn_of _ (by decide +kernel)) ggL_law_X1_minimize
set_option maxRecDepth 20000 in
theorem ggL_law_X2_minimize : GoodIn wsL_law wsX2_minimize := goodIn_r _ [336, 47, 46, 258, 259, 260, 5, 261, 49, 337, 338, 339, 340, 278, 279, 280, 281, 262, 263, 264, 265, 48, 66, 67, 68, 69, 341, 342, 343, 344, 345, 346, 347, 348, 349, 350, 351, 352, 353, 354, 355, 356, 172, 173, 174, 175, 365, 366, 367, 368] (by decide +kernel) (by decide +kernel)
set_option maxRecDepth 20000 in
theorem gL_law_X2_minimize : GoodIn wsL_law (wsV RL 77 RX2 yX2_minimize wsX2_minimize) := goodIn_app (goodIn_of _ (by decide +kernel)) ggL_law_X2_minimize
theorem dL_law_0 : decode cL_law 0 = .ok (.new 7, 3) := by decide +kernel
theorem dL_law_3 : decode cL_law 3 = .ok (.dup, 1) := by decide +kernel
theorem dL_law_4 : decode cL_law 4 = .ok (.invokespecial 9, 3) := by decide +kernel
theorem dL_law_7 : decode cL_law 7 = .ok (.astore_n 1, 1) := by decide +kernel
theorem dL_law_8 : decode cL_law 8 = .ok (.new 10, 3) := by decide +kernel
theorem dL_law_11 : decode cL_law 11 = .ok (.dup, 1) := by decide +kernel
theorem dL_law_12 : decode cL_law 12 = .ok (.invokespecial 12, 3) := by decide +kernel
theorem dL_law_15 : decode cL_law 15 = .ok (.astore_n 2, 1) := by decide +kernel
theorem dL_law_16 : decode cL_law 16 = .ok (.iconst 0, 1) := by decide +kernel
theorem dL_law_17 : decode cL_law 17 = .ok (.istore_n 3, 1) := by decide +kernel
theorem dL_law_18 : decode cL_law 18 = .ok (.iload_n 3, 1) := by decide +kernel
theorem dL_law_19 : decode cL_law 19 = .ok (.aload_n 0, 1) := by decide +kernel
theorem dL_law_20 : decode cL_law 20 = .ok (.arraylength, 1) := by decide +kernel
theorem dL_law_21 : decode cL_law 21 = .ok (.iconst 3, 1) := by decide +kernel
theorem dL_law_22 : decode cL_law 22 = .ok (.isub, 1) := by decide +kernel
theorem dL_law_23 : decode cL_law 23 = .ok (.if_icmp .gt 456, 3) := by decide +kernel
theorem dL_law_26 : decode cL_law 26 = .ok (.aload_n 0, 1) := by decide +kernel
theorem dL_law_27 : decode cL_law 27 = .ok (.iload_n 3, 1) := by decide +kernel
theorem dL_law_28 : decode cL_law 28 = .ok (.iaload, 1) := by decide +kernel
theorem dL_law_29 : decode cL_law 29 = .ok (.bipush 15, 2) := by decide +kernel
theorem dL_law_31 : decode cL_law 31 = .ok (.iand, 1) := by decide +kernel
theorem dL_law_32 : decode cL_law 32 = .ok (.tableswitch 441 0 14 #[76, 99, 112, 135, 158, 181, 214, 237, 260, 293, 316, 339, 372, 405, 428], 76) := by decide +kernel
theorem dL_law_108 : decode cL_law 108 = .ok (.aload_n 1, 1) := by decide +kernel
theorem dL_law_109 : decode cL_law 109 = .ok (.aload_n 0, 1) := by decide +kernel
theorem dL_law_110 : decode cL_law 110 = .ok (.iload_n 3, 1) := by decide +kernel
theorem dL_law_111 : decode cL_law 111 = .ok (.iconst 1, 1) := by decide +kernel
theorem dL_law_112 : decode cL_law 112 = .ok (.iadd, 1) := by decide +kernel
theorem dL_law_113 : decode cL_law 113 = .ok (.iaload, 1) := by decide +kernel
theorem dL_law_114 : decode cL_law 114 = .ok (.invokevirtual 13, 3) := by decide +kernel
theorem dL_law_117 : decode cL_law 117 = .ok (.aload_n 2, 1) := by decide +kernel
theorem dL_law_118 : decode cL_law 118 = .ok (.aload_n 0, 1) := by decide +kernel
theorem dL_law_119 : decode cL_law 119 = .ok (.iload_n 3, 1) := by decide +kernel
theorem dL_law_120 : decode cL_law 120 = .ok (.iconst 1, 1) := by decide +kernel
theorem dL_law_121 : decode cL_law 121 = .ok (.iadd, 1) := by decide +kernel
theorem dL_law_122 : decode cL_law 122 = .ok (.iaload, 1) := by decide +kernel
theorem dL_law_123 : decode cL_law 123 = .ok (.invokevirtual 17, 3) := by decide +kernel
theorem dL_law_126 : decode cL_law 126 = .ok (.if_icmp .eq 347, 3) := by decide +kernel
theorem dL_law_129 : decode cL_law 129 = .ok (.iconst 0, 1) := by decide +kernel
theorem dL_law_130 : decode cL_law 130 = .ok (.ireturn, 1) := by decide +kernel
theorem dL_law_131 : decode cL_law 131 = .ok (.aload_n 1, 1) := by decide +kernel
theorem dL_law_132 : decode cL_law 132 = .ok (.invokevirtual 18, 3) := by decide +kernel
theorem dL_law_135 : decode cL_law 135 = .ok (.aload_n 2, 1) := by decide +kernel
theorem dL_law_136 : decode cL_law 136 = .ok (.invokevirtual 22, 3) := by decide +kernel
theorem dL_law_139 : decode cL_law 139 = .ok (.if_icmp .eq 334, 3) := by decide +kernel
theorem dL_law_142 : decode cL_law 142 = .ok (.iconst 0, 1) := by decide +kernel
theorem dL_law_143 : decode cL_law 143 = .ok (.ireturn, 1) := by decide +kernel
theorem dL_law_144 : decode cL_law 144 = .ok (.aload_n 1, 1) := by decide +kernel
theorem dL_law_145 : decode cL_law 145 = .ok (.aload_n 0, 1) := by decide +kernel
theorem dL_law_146 : decode cL_law 146 = .ok (.iload_n 3, 1) := by decide +kernel
theorem dL_law_147 : decode cL_law 147 = .ok (.iconst 1, 1) := by decide +kernel
theorem dL_law_148 : decode cL_law 148 = .ok (.iadd, 1) := by decide +kernel
theorem dL_law_149 : decode cL_law 149 = .ok (.iaload, 1) := by decide +kernel
theorem dL_law_150 : decode cL_law 150 = .ok (.invokevirtual 23, 3) := by decide +kernel
theorem dL_law_153 : decode cL_law 153 = .ok (.aload_n 2, 1) := by decide +kernel
theorem dL_law_154 : decode cL_law 154 = .ok (.aload_n 0, 1) := by decide +kernel
theorem dL_law_155 : decode cL_law 155 = .ok (.iload_n 3, 1) := by decide +kernel
theorem dL_law_156 : decode cL_law 156 = .ok (.iconst 1, 1) := by decide +kernel
theorem dL_law_157 : decode cL_law 157 = .ok (.iadd, 1) := by decide +kernel
theorem dL_law_158 : decode cL_law 158 = .ok (.iaload, 1) := by decide +kernel
theorem dL_law_159 : decode cL_law 159 = .ok (.invokevirtual 26, 3) := by decide +kernel
theorem dL_law_162 : decode cL_law 162 = .ok (.if_icmp .eq 311, 3) := by decide +kernel
theorem dL_law_165 : decode cL_law 165 = .ok (.iconst 0, 1) := by decide +kernel
theorem dL_law_166 : decode cL_law 166 = .ok (.ireturn, 1) := by decide +kernel
theorem dL_law_167 : decode cL_law 167 = .ok (.aload_n 1, 1) := by decide +kernel
theorem dL_law_168 : decode cL_law 168 = .ok (.aload_n 0, 1) := by decide +kernel
theorem dL_law_169 : decode cL_law 169 = .ok (.iload_n 3, 1) := by decide +kernel
theorem dL_law_170 : decode cL_law 170 = .ok (.iconst 1, 1) := by decide +kernel
theorem dL_law_171 : decode cL_law 171 = .ok (.iadd, 1) := by decide +kernel
theorem dL_law_172 : decode cL_law 172 = .ok (.iaload, 1) := by decide +kernel
theorem dL_law_173 : decode cL_law 173 = .ok (.invokevirtual 27, 3) := by decide +kernel
theorem dL_law_176 : decode cL_law 176 = .ok (.aload_n 2, 1) := by decide +kernel
theorem dL_law_177 : decode cL_law 177 = .ok (.aload_n 0, 1) := by decide +kernel
theorem dL_law_178 : decode cL_law 178 = .ok (.iload_n 3, 1) := by decide +kernel
theorem dL_law_179 : decode cL_law 179 = .ok (.iconst 1, 1) := by decide +kernel
theorem dL_law_180 : decode cL_law 180 = .ok (.iadd, 1) := by decide +kernel
theorem dL_law_181 : decode cL_law 181 = .ok (.iaload, 1) := by decide +kernel
theorem dL_law_182 : decode cL_law 182 = .ok (.invokevirtual 30, 3) := by decide +kernel
theorem dL_law_185 : decode cL_law 185 = .ok (.if_icmp .eq 288, 3) := by decide +kernel
theorem dL_law_188 : decode cL_law 188 = .ok (.iconst 0, 1) := by decide +kernel
theorem dL_law_189 : decode cL_law 189 = .ok (.ireturn, 1) := by decide +kernel
theorem dL_law_190 : decode cL_law 190 = .ok (.aload_n 1, 1) := by decide +kernel
theorem dL_law_191 : decode cL_law 191 = .ok (.aload_n 0, 1) := by decide +kernel
theorem dL_law_192 : decode cL_law 192 = .ok (.iload_n 3, 1) := by decide +kernel
theorem dL_law_193 : decode cL_law 193 = .ok (.iconst 1, 1) := by decide +kernel
theorem dL_law_194 : decode cL_law 194 = .ok (.iadd, 1) := by decide +kernel
theorem dL_law_195 : decode cL_law 195 = .ok (.iaload, 1) := by decide +kernel
theorem dL_law_196 : decode cL_law 196 = .ok (.invokevirtual 31, 3) := by decide +kernel
theorem dL_law_199 : decode cL_law 199 = .ok (.aload_n 2, 1) := by decide +kernel
theorem dL_law_200 : decode cL_law 200 = .ok (.aload_n 0, 1) := by decide +kernel
theorem dL_law_201 : decode cL_law 201 = .ok (.iload_n 3, 1) := by decide +kernel
theorem dL_law_202 : decode cL_law 202 = .ok (.iconst 1, 1) := by decide +kernel
theorem dL_law_203 : decode cL_law 203 = .ok (.iadd, 1) := by decide +kernel
theorem dL_law_204 : decode cL_law 204 = .ok (.iaload, 1) := by decide +kernel
theorem dL_law_205 : decode cL_law 205 = .ok (.invokevirtual 35, 3) := by decide +kernel
theorem dL_law_208 : decode cL_law 208 = .ok (.if_icmp .eq 265, 3) := by decide +kernel
theorem dL_law_211 : decode cL_law 211 = .ok (.iconst 0, 1) := by decide +kernel
theorem dL_law_212 : decode cL_law 212 = .ok (.ireturn, 1) := by decide +kernel
theorem dL_law_213 : decode cL_law 213 = .ok (.aload_n 1, 1) := by decide +kernel
theorem dL_law_214 : decode cL_law 214 = .ok (.aload_n 0, 1) := by decide +kernel
theorem dL_law_215 : decode cL_law 215 = .ok (.iload_n 3, 1) := by decide +kernel
theorem dL_law_216 : decode cL_law 216 = .ok (.iconst 1, 1) := by decide +kernel
theorem dL_law_217 : decode cL_law 217 = .ok (.iadd, 1) := by decide +kernel
theorem dL_law_218 : decode cL_law 218 = .ok (.iaload, 1) := by decide +kernel
theorem dL_law_219 : decode cL_law 219 = .ok (.aload_n 0, 1) := by decide +kernel
theorem dL_law_220 : decode cL_law 220 = .ok (.iload_n 3, 1) := by decide +kernel
theorem dL_law_221 : decode cL_law 221 = .ok (.iconst 2, 1) := by decide +kernel
theorem dL_law_222 : decode cL_law 222 = .ok (.iadd, 1) := by decide +kernel
theorem dL_law_223 : decode cL_law 223 = .ok (.iaload, 1) := by decide +kernel
theorem dL_law_224 : decode cL_law 224 = .ok (.invokevirtual 36, 3) := by decide +kernel
theorem dL_law_227 : decode cL_law 227 = .ok (.aload_n 2, 1) := by decide +kernel
theorem dL_law_228 : decode cL_law 228 = .ok (.aload_n 0, 1) := by decide +kernel
theorem dL_law_229 : decode cL_law 229 = .ok (.iload_n 3, 1) := by decide +kernel
theorem dL_law_230 : decode cL_law 230 = .ok (.iconst 1, 1) := by decide +kernel
theorem dL_law_231 : decode cL_law 231 = .ok (.iadd, 1) := by decide +kernel
theorem dL_law_232 : decode cL_law 232 = .ok (.iaload, 1) := by decide +kernel
theorem dL_law_233 : decode cL_law 233 = .ok (.aload_n 0, 1) := by decide +kernel
theorem dL_law_234 : decode cL_law 234 = .ok (.iload_n 3, 1) := by decide +kernel
theorem dL_law_235 : decode cL_law 235 = .ok (.iconst 2, 1) := by decide +kernel
theorem dL_law_236 : decode cL_law 236 = .ok (.iadd, 1) := by decide +kernel
theorem dL_law_237 : decode cL_law 237 = .ok (.iaload, 1) := by decide +kernel
theorem dL_law_238 : decode cL_law 238 = .ok (.invokevirtual 40, 3) := by decide +kernel
theorem dL_law_241 : decode cL_law 241 = .ok (.if_icmp .eq 232, 3) := by decide +kernel
theorem dL_law_244 : decode cL_law 244 = .ok (.iconst 0, 1) := by decide +kernel
theorem dL_law_245 : decode cL_law 245 = .ok (.ireturn, 1) := by decide +kernel
theorem dL_law_246 : decode cL_law 246 = .ok (.aload_n 1, 1) := by decide +kernel
theorem dL_law_247 : decode cL_law 247 = .ok (.aload_n 0, 1) := by decide +kernel
theorem dL_law_248 : decode cL_law 248 = .ok (.iload_n 3, 1) := by decide +kernel
theorem dL_law_249 : decode cL_law 249 = .ok (.iconst 1, 1) := by decide +kernel
theorem dL_law_250 : decode cL_law 250 = .ok (.iadd, 1) := by decide +kernel
theorem dL_law_251 : decode cL_law 251 = .ok (.iaload, 1) := by decide +kernel
theorem dL_law_252 : decode cL_law 252 = .ok (.invokevirtual 41, 3) := by decide +kernel
theorem dL_law_255 : decode cL_law 255 = .ok (.aload_n 2, 1) := by decide +kernel
theorem dL_law_256 : decode cL_law 256 = .ok (.aload_n 0, 1) := by decide +kernel
theorem dL_law_257 : decode cL_law 257 = .ok (.iload_n 3, 1) := by decide +kernel
theorem dL_law_258 : decode cL_law 258 = .ok (.iconst 1, 1) := by decide +kernel
theorem dL_law_259 : decode cL_law 259 = .ok (.iadd, 1) := by decide +kernel
theorem dL_law_260 : decode cL_law 260 = .ok (.iaload, 1) := by decide +kernel
theorem dL_law_261 : decode cL_law 261 = .ok (.invokevirtual 44, 3) := by decide +kernel
theorem dL_law_264 : decode cL_law 264 = .ok (.if_icmp .eq 209, 3) := by decide +kernel
theorem dL_law_267 : decode cL_law 267 = .ok (.iconst 0, 1) := by decide +kernel
theorem dL_law_268 : decode cL_law 268 = .ok (.ireturn, 1) := by decide +kernel
theorem dL_law_269 : decode cL_law 269 = .ok (.aload_n 1, 1) := by decide +kernel
theorem dL_law_270 : decode cL_law 270 = .ok (.aload_n 0, 1) := by decide +kernel
theorem dL_law_271 : decode cL_law 271 = .ok (.iload_n 3, 1) := by decide +kernel
theorem dL_law_272 : decode cL_law 272 = .ok (.iconst 1, 1) := by decide +kernel
theorem dL_law_273 : decode cL_law 273 = .ok (.iadd, 1) := by decide +kernel
theorem dL_law_274 : decode cL_law 274 = .ok (.iaload, 1) := by decide +kernel
theorem dL_law_275 : decode cL_law 275 = .ok (.invokevirtual 45, 3) := by decide +kernel
theorem dL_law_278 : decode cL_law 278 = .ok (.aload_n 2, 1) := by decide +kernel
theorem dL_law_279 : decode cL_law 279 = .ok (.aload_n 0, 1) := by decide +kernel
theorem dL_law_280 : decode cL_law 280 = .ok (.iload_n 3, 1) := by decide +kernel
theorem dL_law_281 : decode cL_law 281 = .ok (.iconst 1, 1) := by decide +kernel
theorem dL_law_282 : decode cL_law 282 = .ok (.iadd, 1) := by decide +kernel
theorem dL_law_283 : decode cL_law 283 = .ok (.iaload, 1) := by decide +kernel
theorem dL_law_284 : decode cL_law 284 = .ok (.invokevirtual 48, 3) := by decide +kernel
theorem dL_law_287 : decode cL_law 287 = .ok (.if_icmp .eq 186, 3) := by decide +kernel
theorem dL_law_290 : decode cL_law 290 = .ok (.iconst 0, 1) := by decide +kernel
theorem dL_law_291 : decode cL_law 291 = .ok (.ireturn, 1) := by decide +kernel
theorem dL_law_292 : decode cL_law 292 = .ok (.aload_n 1, 1) := by decide +kernel
theorem dL_law_293 : decode cL_law 293 = .ok (.aload_n 0, 1) := by decide +kernel
theorem dL_law_294 : decode cL_law 294 = .ok (.iload_n 3, 1) := by decide +kernel
theorem dL_law_295 : decode cL_law 295 = .ok (.iconst 1, 1) := by decide +kernel
theorem dL_law_296 : decode cL_law 296 = .ok (.iadd, 1) := by decide +kernel
theorem dL_law_297 : decode cL_law 297 = .ok (.iaload, 1) := by decide +kernel
theorem dL_law_298 : decode cL_law 298 = .ok (.aload_n 0, 1) := by decide +kernel
theorem dL_law_299 : decode cL_law 299 = .ok (.iload_n 3, 1) := by decide +kernel
theorem dL_law_300 : decode cL_law 300 = .ok (.iconst 2, 1) := by decide +kernel
theorem dL_law_301 : decode cL_law 301 = .ok (.iadd, 1) := by decide +kernel
theorem dL_law_302 : decode cL_law 302 = .ok (.iaload, 1) := by decide +kernel
theorem dL_law_303 : decode cL_law 303 = .ok (.invokevirtual 49, 3) := by decide +kernel
theorem dL_law_306 : decode cL_law 306 = .ok (.aload_n 2, 1) := by decide +kernel
theorem dL_law_307 : decode cL_law 307 = .ok (.aload_n 0, 1) := by decide +kernel
theorem dL_law_308 : decode cL_law 308 = .ok (.iload_n 3, 1) := by decide +kernel
theorem dL_law_309 : decode cL_law 309 = .ok (.iconst 1, 1) := by decide +kernel
theorem dL_law_310 : decode cL_law 310 = .ok (.iadd, 1) := by decide +kernel
theorem dL_law_311 : decode cL_law 311 = .ok (.iaload, 1) := by decide +kernel
theorem dL_law_312 : decode cL_law 312 = .ok (.aload_n 0, 1) := by decide +kernel
theorem dL_law_313 : decode cL_law 313 = .ok (.iload_n 3, 1) := by decide +kernel
theorem dL_law_314 : decode cL_law 314 = .ok (.iconst 2, 1) := by decide +kernel
theorem dL_law_315 : decode cL_law 315 = .ok (.iadd, 1) := by decide +kernel
theorem dL_law_316 : decode cL_law 316 = .ok (.iaload, 1) := by decide +kernel
theorem dL_law_317 : decode cL_law 317 = .ok (.invokevirtual 53, 3) := by decide +kernel
theorem dL_law_320 : decode cL_law 320 = .ok (.if_icmp .eq 153, 3) := by decide +kernel
theorem dL_law_323 : decode cL_law 323 = .ok (.iconst 0, 1) := by decide +kernel
theorem dL_law_324 : decode cL_law 324 = .ok (.ireturn, 1) := by decide +kernel
theorem dL_law_325 : decode cL_law 325 = .ok (.aload_n 1, 1) := by decide +kernel
theorem dL_law_326 : decode cL_law 326 = .ok (.aload_n 0, 1) := by decide +kernel
theorem dL_law_327 : decode cL_law 327 = .ok (.iload_n 3, 1) := by decide +kernel
theorem dL_law_328 : decode cL_law 328 = .ok (.iconst 1, 1) := by decide +kernel
theorem dL_law_329 : decode cL_law 329 = .ok (.iadd, 1) := by decide +kernel
theorem dL_law_330 : decode cL_law 330 = .ok (.iaload, 1) := by decide +kernel
theorem dL_law_331 : decode cL_law 331 = .ok (.invokevirtual 54, 3) := by decide +kernel
theorem dL_law_334 : decode cL_law 334 = .ok (.aload_n 2, 1) := by decide +kernel
theorem dL_law_335 : decode cL_law 335 = .ok (.aload_n 0, 1) := by decide +kernel
theorem dL_law_336 : decode cL_law 336 = .ok (.iload_n 3, 1) := by decide +kernel
theorem dL_law_337 : decode cL_law 337 = .ok (.iconst 1, 1) := by decide +kernel
theorem dL_law_338 : decode cL_law 338 = .ok (.iadd, 1) := by decide +kernel
theorem dL_law_339 : decode cL_law 339 = .ok (.iaload, 1) := by decide +kernel
theorem dL_law_340 : decode cL_law 340 = .ok (.invokevirtual 57, 3) := by decide +kernel
theorem dL_law_343 : decode cL_law 343 = .ok (.if_icmp .eq 130, 3) := by decide +kernel
theorem dL_law_346 : decode cL_law 346 = .ok (.iconst 0, 1) := by decide +kernel
theorem dL_law_347 : decode cL_law 347 = .ok (.ireturn, 1) := by decide +kernel
theorem dL_law_348 : decode cL_law 348 = .ok (.aload_n 1, 1) := by decide +kernel
theorem dL_law_349 : decode cL_law 349 = .ok (.aload_n 0, 1) := by decide +kernel
theorem dL_law_350 : decode cL_law 350 = .ok (.iload_n 3, 1) := by decide +kernel
theorem dL_law_351 : decode cL_law 351 = .ok (.iconst 1, 1) := by decide +kernel
theorem dL_law_352 : decode cL_law 352 = .ok (.iadd, 1) := by decide +kernel
theorem dL_law_353 : decode cL_law 353 = .ok (.iaload, 1) := by decide +kernel
theorem dL_law_354 : decode cL_law 354 = .ok (.invokevirtual 58, 3) := by decide +kernel
theorem dL_law_357 : decode cL_law 357 = .ok (.aload_n 2, 1) := by decide +kernel
theorem dL_law_358 : decode cL_law 358 = .ok (.aload_n 0, 1) := by decide +kernel
theorem dL_law_359 : decode cL_law 359 = .ok (.iload_n 3, 1) := by decide +kernel
theorem dL_law_360 : decode cL_law 360 = .ok (.iconst 1, 1) := by decide +kernel
theorem dL_law_361 : decode cL_law 361 = .ok (.iadd, 1) := by decide +kernel
theorem dL_law_362 : decode cL_law 362 = .ok (.iaload, 1) := by decide +kernel
theorem dL_law_363 : decode cL_law 363 = .ok (.invokevirtual 61, 3) := by decide +kernel
theorem dL_law_366 : decode cL_law 366 = .ok (.if_icmp .eq 107, 3) := by decide +kernel
theorem dL_law_369 : decode cL_law 369 = .ok (.iconst 0, 1) := by decide +kernel
theorem dL_law_370 : decode cL_law 370 = .ok (.ireturn, 1) := by decide +kernel
theorem dL_law_371 : decode cL_law 371 = .ok (.aload_n 1, 1) := by decide +kernel
theorem dL_law_372 : decode cL_law 372 = .ok (.aload_n 0, 1) := by decide +kernel
theorem dL_law_373 : decode cL_law 373 = .ok (.iload_n 3, 1) := by decide +kernel
theorem dL_law_374 : decode cL_law 374 = .ok (.iconst 1, 1) := by decide +kernel
theorem dL_law_375 : decode cL_law 375 = .ok (.iadd, 1) := by decide +kernel
theorem dL_law_376 : decode cL_law 376 = .ok (.iaload, 1) := by decide +kernel
theorem dL_law_377 : decode cL_law 377 = .ok (.aload_n 0, 1) := by decide +kernel
theorem dL_law_378 : decode cL_law 378 = .ok (.iload_n 3, 1) := by decide +kernel
theorem dL_law_379 : decode cL_law 379 = .ok (.iconst 2, 1) := by decide +kernel
theorem dL_law_380 : decode cL_law 380 = .ok (.iadd, 1) := by decide +kernel
theorem dL_law_381 : decode cL_law 381 = .ok (.iaload, 1) := by decide +kernel
theorem dL_law_382 : decode cL_law 382 = .ok (.invokevirtual 62, 3) := by decide +kernel
theorem dL_law_385 : decode cL_law 385 = .ok (.aload_n 2, 1) := by decide +kernel
theorem dL_law_386 : decode cL_law 386 = .ok (.aload_n 0, 1) := by decide +kernel
theorem dL_law_387 : decode cL_law 387 = .ok (.iload_n 3, 1) := by decide +kernel
theorem dL_law_388 : decode cL_law 388 = .ok (.iconst 1, 1) := by decide +kernel
theorem dL_law_389 : decode cL_law 389 = .ok (.iadd, 1) := by decide +kernel
theorem dL_law_390 : decode cL_law 390 = .ok (.iaload, 1) := by decide +kernel
theorem dL_law_391 : decode cL_law 391 = .ok (.aload_n 0, 1) := by decide +kernel
theorem dL_law_392 : decode cL_law 392 = .ok (.iload_n 3, 1) := by decide +kernel
theorem dL_law_393 : decode cL_law 393 = .ok (.iconst 2, 1) := by decide +kernel
theorem dL_law_394 : decode cL_law 394 = .ok (.iadd, 1) := by decide +kernel
theorem dL_law_395 : decode cL_law 395 = .ok (.iaload, 1) := by decide +kernel
theorem dL_law_396 : decode cL_law 396 = .ok (.invokevirtual 65, 3) := by decide +kernel
theorem dL_law_399 : decode cL_law 399 = .ok (.if_icmp .eq 74, 3) := by decide +kernel
theorem dL_law_402 : decode cL_law 402 = .ok (.iconst 0, 1) := by decide +kernel
theorem dL_law_403 : decode cL_law 403 = .ok (.ireturn, 1) := by decide +kernel
theorem dL_law_404 : decode cL_law 404 = .ok (.aload_n 1, 1) := by decide +kernel
theorem dL_law_405 : decode cL_law 405 = .ok (.aload_n 0, 1) := by decide +kernel
theorem dL_law_406 : decode cL_law 406 = .ok (.iload_n 3, 1) := by decide +kernel
theorem dL_law_407 : decode cL_law 407 = .ok (.iconst 1, 1) := by decide +kernel
theorem dL_law_408 : decode cL_law 408 = .ok (.iadd, 1) := by decide +kernel
theorem dL_law_409 : decode cL_law 409 = .ok (.iaload, 1) := by decide +kernel
theorem dL_law_410 : decode cL_law 410 = .ok (.aload_n 0, 1) := by decide +kernel
theorem dL_law_411 : decode cL_law 411 = .ok (.iload_n 3, 1) := by decide +kernel
theorem dL_law_412 : decode cL_law 412 = .ok (.iconst 2, 1) := by decide +kernel
theorem dL_law_413 : decode cL_law 413 = .ok (.iadd, 1) := by decide +kernel
theorem dL_law_414 : decode cL_law 414 = .ok (.iaload, 1) := by decide +kernel
theorem dL_law_415 : decode cL_law 415 = .ok (.invokevirtual 66, 3) := by decide +kernel
theorem dL_law_418 : decode cL_law 418 = .ok (.aload_n 2, 1) := by decide +kernel
theorem dL_law_419 : decode cL_law 419 = .ok (.aload_n 0, 1) := by decide +kernel
theorem dL_law_420 : decode cL_law 420 = .ok (.iload_n 3, 1) := by decide +kernel
theorem dL_law_421 : decode cL_law 421 = .ok (.iconst 1, 1) := by decide +kernel
theorem dL_law_422 : decode cL_law 422 = .ok (.iadd, 1) := by decide +kernel
theorem dL_law_423 : decode cL_law 423 = .ok (.iaload, 1) := by decide +kernel
theorem dL_law_424 : decode cL_law 424 = .ok (.aload_n 0, 1) := by decide +kernel
theorem dL_law_425 : decode cL_law 425 = .ok (.iload_n 3, 1) := by decide +kernel
theorem dL_law_426 : decode cL_law 426 = .ok (.iconst 2, 1) := by decide +kernel
theorem dL_law_427 : decode cL_law 427 = .ok (.iadd, 1) := by decide +kernel
theorem dL_law_428 : decode cL_law 428 = .ok (.iaload, 1) := by decide +kernel
theorem dL_law_429 : decode cL_law 429 = .ok (.invokevirtual 69, 3) := by decide +kernel
theorem dL_law_432 : decode cL_law 432 = .ok (.if_icmp .eq 41, 3) := by decide +kernel
theorem dL_law_435 : decode cL_law 435 = .ok (.iconst 0, 1) := by decide +kernel
theorem dL_law_436 : decode cL_law 436 = .ok (.ireturn, 1) := by decide +kernel
theorem dL_law_437 : decode cL_law 437 = .ok (.aload_n 1, 1) := by decide +kernel
theorem dL_law_438 : decode cL_law 438 = .ok (.aload_n 0, 1) := by decide +kernel
theorem dL_law_439 : decode cL_law 439 = .ok (.iload_n 3, 1) := by decide +kernel
theorem dL_law_440 : decode cL_law 440 = .ok (.iconst 1, 1) := by decide +kernel
theorem dL_law_441 : decode cL_law 441 = .ok (.iadd, 1) := by decide +kernel
theorem dL_law_442 : decode cL_law 442 = .ok (.iaload, 1) := by decide +kernel
theorem dL_law_443 : decode cL_law 443 = .ok (.invokevirtual 70, 3) := by decide +kernel
theorem dL_law_446 : decode cL_law 446 = .ok (.aload_n 2, 1) := by decide +kernel
theorem dL_law_447 : decode cL_law 447 = .ok (.aload_n 0, 1) := by decide +kernel
theorem dL_law_448 : decode cL_law 448 = .ok (.iload_n 3, 1) := by decide +kernel
theorem dL_law_449 : decode cL_law 449 = .ok (.iconst 1, 1) := by decide +kernel
theorem dL_law_450 : decode cL_law 450 = .ok (.iadd, 1) := by decide +kernel
theorem dL_law_451 : decode cL_law 451 = .ok (.iaload, 1) := by decide +kernel
theorem dL_law_452 : decode cL_law 452 = .ok (.invokevirtual 73, 3) := by decide +kernel
theorem dL_law_455 : decode cL_law 455 = .ok (.if_icmp .eq 18, 3) := by decide +kernel
theorem dL_law_458 : decode cL_law 458 = .ok (.iconst 0, 1) := by decide +kernel
theorem dL_law_459 : decode cL_law 459 = .ok (.ireturn, 1) := by decide +kernel
theorem dL_law_460 : decode cL_law 460 = .ok (.aload_n 1, 1) := by decide +kernel
theorem dL_law_461 : decode cL_law 461 = .ok (.invokevirtual 74, 3) := by decide +kernel
theorem dL_law_464 : decode cL_law 464 = .ok (.aload_n 2, 1) := by decide +kernel
theorem dL_law_465 : decode cL_law 465 = .ok (.invokevirtual 77, 3) := by decide +kernel
theorem dL_law_468 : decode cL_law 468 = .ok (.if_icmp .eq 5, 3) := by decide +kernel
theorem dL_law_471 : decode cL_law 471 = .ok (.iconst 0, 1) := by decide +kernel
theorem dL_law_472 : decode cL_law 472 = .ok (.ireturn, 1) := by decide +kernel
theorem dL_law_473 : decode cL_law 473 = .ok (.iinc 3 3, 3) := by decide +kernel
theorem dL_law_476 : decode cL_law 476 = .ok (.goto (-458), 3) := by decide +kernel
theorem dL_law_479 : decode cL_law 479 = .ok (.iconst 1, 1) := by decide +kernel
theorem dL_law_480 : decode cL_law 480 = .ok (.ireturn, 1) := by decide +kernel
abbrev vwCl : List vw_C := [(RX0, TX0, 2), (RX1, TX1, 8), (RX2, TX2, 4)]
