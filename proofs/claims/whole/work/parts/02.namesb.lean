theorem dX0_init_0 : decode cX0_init 0 = .ok (.aload_n 0, 1) := by decide +kernel
theorem dX0_init_1 : decode cX0_init 1 = .ok (.invokespecial 3, 3) := by decide +kernel
theorem dX0_init_4 : decode cX0_init 4 = .ok (.aload_n 0, 1) := by decide +kernel
theorem dX0_init_5 : decode cX0_init 5 = .ok (.bipush 24, 2) := by decide +kernel
theorem dX0_init_7 : decode cX0_init 7 = .ok (.newarray .int, 2) := by decide +kernel
theorem dX0_init_9 : decode cX0_init 9 = .ok (.putfield 9, 3) := by decide +kernel
theorem dX0_init_12 : decode cX0_init 12 = .ok (.aload_n 0, 1) := by decide +kernel
theorem dX0_init_13 : decode cX0_init 13 = .ok (.iconst 0, 1) := by decide +kernel
theorem dX0_init_14 : decode cX0_init 14 = .ok (.putfield 15, 3) := by decide +kernel
theorem dX0_init_17 : decode cX0_init 17 = .ok (.return_, 1) := by decide +kernel
theorem dX0_length_0 : decode cX0_length 0 = .ok (.aload_n 0, 1) := by decide +kernel
theorem dX0_length_1 : decode cX0_length 1 = .ok (.getfield 15, 3) := by decide +kernel
theorem dX0_length_4 : decode cX0_length 4 = .ok (.ireturn, 1) := by decide +kernel
theorem dX0_clear_0 : decode cX0_clear 0 = .ok (.aload_n 0, 1) := by decide +kernel
theorem dX0_clear_1 : decode cX0_clear 1 = .ok (.iconst 0, 1) := by decide +kernel
theorem dX0_clear_2 : decode cX0_clear 2 = .ok (.putfield 15, 3) := by decide +kernel
theorem dX0_clear_5 : decode cX0_clear 5 = .ok (.return_, 1) := by decide +kernel
theorem dX0_at_0 : decode cX0_at 0 = .ok (.iload_n 1, 1) := by decide +kernel
theorem dX0_at_1 : decode cX0_at 1 = .ok (.ifCond .lt 20, 3) := by decide +kernel
theorem dX0_at_4 : decode cX0_at 4 = .ok (.iload_n 1, 1) := by decide +kernel
theorem dX0_at_5 : decode cX0_at 5 = .ok (.aload_n 0, 1) := by decide +kernel
theorem dX0_at_6 : decode cX0_at 6 = .ok (.getfield 15, 3) := by decide +kernel
theorem dX0_at_9 : decode cX0_at 9 = .ok (.if_icmp .ge 12, 3) := by decide +kernel
theorem dX0_at_12 : decode cX0_at 12 = .ok (.aload_n 0, 1) := by decide +kernel
theorem dX0_at_13 : decode cX0_at 13 = .ok (.getfield 9, 3) := by decide +kernel
theorem dX0_at_16 : decode cX0_at 16 = .ok (.iload_n 1, 1) := by decide +kernel
theorem dX0_at_17 : decode cX0_at 17 = .ok (.iaload, 1) := by decide +kernel
theorem dX0_at_18 : decode cX0_at 18 = .ok (.goto 4, 3) := by decide +kernel
theorem dX0_at_21 : decode cX0_at 21 = .ok (.iconst (-1), 1) := by decide +kernel
theorem dX0_at_22 : decode cX0_at 22 = .ok (.ireturn, 1) := by decide +kernel
theorem dX0_append_0 : decode cX0_append 0 = .ok (.aload_n 0, 1) := by decide +kernel
theorem dX0_append_1 : decode cX0_append 1 = .ok (.getfield 15, 3) := by decide +kernel
theorem dX0_append_4 : decode cX0_append 4 = .ok (.bipush 24, 2) := by decide +kernel
theorem dX0_append_6 : decode cX0_append 6 = .ok (.if_icmp .lt 5, 3) := by decide +kernel
theorem dX0_append_9 : decode cX0_append 9 = .ok (.iconst 0, 1) := by decide +kernel
theorem dX0_append_10 : decode cX0_append 10 = .ok (.ireturn, 1) := by decide +kernel
theorem dX0_append_11 : decode cX0_append 11 = .ok (.aload_n 0, 1) := by decide +kernel
theorem dX0_append_12 : decode cX0_append 12 = .ok (.getfield 9, 3) := by decide +kernel
theorem dX0_append_15 : decode cX0_append 15 = .ok (.aload_n 0, 1) := by decide +kernel
theorem dX0_append_16 : decode cX0_append 16 = .ok (.getfield 15, 3) := by decide +kernel
theorem dX0_append_19 : decode cX0_append 19 = .ok (.iload_n 1, 1) := by decide +kernel
theorem dX0_append_20 : decode cX0_append 20 = .ok (.iastore, 1) := by decide +kernel
theorem dX0_append_21 : decode cX0_append 21 = .ok (.aload_n 0, 1) := by decide +kernel
theorem dX0_append_22 : decode cX0_append 22 = .ok (.dup, 1) := by decide +kernel
theorem dX0_append_23 : decode cX0_append 23 = .ok (.getfield 15, 3) := by decide +kernel
theorem dX0_append_26 : decode cX0_append 26 = .ok (.iconst 1, 1) := by decide +kernel
theorem dX0_append_27 : decode cX0_append 27 = .ok (.iadd, 1) := by decide +kernel
theorem dX0_append_28 : decode cX0_append 28 = .ok (.putfield 15, 3) := by decide +kernel
theorem dX0_append_31 : decode cX0_append 31 = .ok (.iconst 1, 1) := by decide +kernel
theorem dX0_append_32 : decode cX0_append 32 = .ok (.ireturn, 1) := by decide +kernel
theorem dX0_put_0 : decode cX0_put 0 = .ok (.iload_n 1, 1) := by decide +kernel
theorem dX0_put_1 : decode cX0_put 1 = .ok (.ifCond .lt 18, 3) := by decide +kernel
theorem dX0_put_4 : decode cX0_put 4 = .ok (.iload_n 1, 1) := by decide +kernel
theorem dX0_put_5 : decode cX0_put 5 = .ok (.aload_n 0, 1) := by decide +kernel
theorem dX0_put_6 : decode cX0_put 6 = .ok (.getfield 15, 3) := by decide +kernel
theorem dX0_put_9 : decode cX0_put 9 = .ok (.if_icmp .ge 10, 3) := by decide +kernel
theorem dX0_put_12 : decode cX0_put 12 = .ok (.aload_n 0, 1) := by decide +kernel
theorem dX0_put_13 : decode cX0_put 13 = .ok (.getfield 9, 3) := by decide +kernel
theorem dX0_put_16 : decode cX0_put 16 = .ok (.iload_n 1, 1) := by decide +kernel
theorem dX0_put_17 : decode cX0_put 17 = .ok (.iload_n 2, 1) := by decide +kernel
theorem dX0_put_18 : decode cX0_put 18 = .ok (.iastore, 1) := by decide +kernel
theorem dX0_put_19 : decode cX0_put 19 = .ok (.return_, 1) := by decide +kernel
theorem dX0_takeOut_0 : decode cX0_takeOut 0 = .ok (.iload_n 1, 1) := by decide +kernel
theorem dX0_takeOut_1 : decode cX0_takeOut 1 = .ok (.ifCond .lt 11, 3) := by decide +kernel
theorem dX0_takeOut_4 : decode cX0_takeOut 4 = .ok (.iload_n 1, 1) := by decide +kernel
theorem dX0_takeOut_5 : decode cX0_takeOut 5 = .ok (.aload_n 0, 1) := by decide +kernel
theorem dX0_takeOut_6 : decode cX0_takeOut 6 = .ok (.getfield 15, 3) := by decide +kernel
theorem dX0_takeOut_9 : decode cX0_takeOut 9 = .ok (.if_icmp .lt 4, 3) := by decide +kernel
theorem dX0_takeOut_12 : decode cX0_takeOut 12 = .ok (.return_, 1) := by decide +kernel
theorem dX0_takeOut_13 : decode cX0_takeOut 13 = .ok (.iload_n 1, 1) := by decide +kernel
theorem dX0_takeOut_14 : decode cX0_takeOut 14 = .ok (.iconst 1, 1) := by decide +kernel
theorem dX0_takeOut_15 : decode cX0_takeOut 15 = .ok (.iadd, 1) := by decide +kernel
theorem dX0_takeOut_16 : decode cX0_takeOut 16 = .ok (.istore_n 2, 1) := by decide +kernel
theorem dX0_takeOut_17 : decode cX0_takeOut 17 = .ok (.iload_n 2, 1) := by decide +kernel
theorem dX0_takeOut_18 : decode cX0_takeOut 18 = .ok (.aload_n 0, 1) := by decide +kernel
theorem dX0_takeOut_19 : decode cX0_takeOut 19 = .ok (.getfield 15, 3) := by decide +kernel
theorem dX0_takeOut_22 : decode cX0_takeOut 22 = .ok (.if_icmp .ge 23, 3) := by decide +kernel
theorem dX0_takeOut_25 : decode cX0_takeOut 25 = .ok (.aload_n 0, 1) := by decide +kernel
theorem dX0_takeOut_26 : decode cX0_takeOut 26 = .ok (.getfield 9, 3) := by decide +kernel
theorem dX0_takeOut_29 : decode cX0_takeOut 29 = .ok (.iload_n 2, 1) := by decide +kernel
theorem dX0_takeOut_30 : decode cX0_takeOut 30 = .ok (.iconst 1, 1) := by decide +kernel
theorem dX0_takeOut_31 : decode cX0_takeOut 31 = .ok (.isub, 1) := by decide +kernel
theorem dX0_takeOut_32 : decode cX0_takeOut 32 = .ok (.aload_n 0, 1) := by decide +kernel
theorem dX0_takeOut_33 : decode cX0_takeOut 33 = .ok (.getfield 9, 3) := by decide +kernel
theorem dX0_takeOut_36 : decode cX0_takeOut 36 = .ok (.iload_n 2, 1) := by decide +kernel
theorem dX0_takeOut_37 : decode cX0_takeOut 37 = .ok (.iaload, 1) := by decide +kernel
theorem dX0_takeOut_38 : decode cX0_takeOut 38 = .ok (.iastore, 1) := by decide +kernel
theorem dX0_takeOut_39 : decode cX0_takeOut 39 = .ok (.iinc 2 1, 3) := by decide +kernel
theorem dX0_takeOut_42 : decode cX0_takeOut 42 = .ok (.goto (-25), 3) := by decide +kernel
theorem dX0_takeOut_45 : decode cX0_takeOut 45 = .ok (.aload_n 0, 1) := by decide +kernel
theorem dX0_takeOut_46 : decode cX0_takeOut 46 = .ok (.dup, 1) := by decide +kernel
theorem dX0_takeOut_47 : decode cX0_takeOut 47 = .ok (.getfield 15, 3) := by decide +kernel
theorem dX0_takeOut_50 : decode cX0_takeOut 50 = .ok (.iconst 1, 1) := by decide +kernel
theorem dX0_takeOut_51 : decode cX0_takeOut 51 = .ok (.isub, 1) := by decide +kernel
theorem dX0_takeOut_52 : decode cX0_takeOut 52 = .ok (.putfield 15, 3) := by decide +kernel
theorem dX0_takeOut_55 : decode cX0_takeOut 55 = .ok (.return_, 1) := by decide +kernel
set_option maxRecDepth 20000 in
theorem ggX0_copyFrom_X0_length : GoodIn wsX0_copyFrom wsX0_length := goodIn_r _ [6, 1, 16, 17] (by decide +kernel) (by decide +kernel)
set_option maxRecDepth 20000 in
theorem gX0_copyFrom_X0_length : GoodIn wsX0_copyFrom (wsV RX0 19 RX0 yX0_length wsX0_length) := goodIn_app (goodIn_of _ (by decide +kernel)) ggX0_copyFrom_X0_length
set_option maxRecDepth 20000 in
theorem ggX0_copyFrom_X0_at : GoodIn wsX0_copyFrom wsX0_at := goodIn_r _ [10, 1, 11, 16, 17] (by decide +kernel) (by decide +kernel)
set_option maxRecDepth 20000 in
theorem gX0_copyFrom_X0_at : GoodIn wsX0_copyFrom (wsV RX0 23 RX0 yX0_at wsX0_at) := goodIn_app (goodIn_of _ (by decide +kernel)) ggX0_copyFrom_X0_at
set_option maxRecDepth 20000 in
theorem ggX0_copyFrom_X0_append : GoodIn wsX0_copyFrom wsX0_append := goodIn_r _ [15, 1, 11, 16, 17] (by decide +kernel) (by decide +kernel)
set_option maxRecDepth 20000 in
theorem gX0_copyFrom_X0_append : GoodIn wsX0_copyFrom (wsV RX0 27 RX0 yX0_append wsX0_append) := goodIn_app (goodIn_of _ (by decide +kernel)) ggX0_copyFrom_X0_append
theorem dX0_copyFrom_0 : decode cX0_copyFrom 0 = .ok (.aload_n 0, 1) := by decide +kernel
theorem dX0_copyFrom_1 : decode cX0_copyFrom 1 = .ok (.iconst 0, 1) := by decide +kernel
theorem dX0_copyFrom_2 : decode cX0_copyFrom 2 = .ok (.putfield 15, 3) := by decide +kernel
theorem dX0_copyFrom_5 : decode cX0_copyFrom 5 = .ok (.iconst 0, 1) := by decide +kernel
theorem dX0_copyFrom_6 : decode cX0_copyFrom 6 = .ok (.istore_n 2, 1) := by decide +kernel
theorem dX0_copyFrom_7 : decode cX0_copyFrom 7 = .ok (.iload_n 2, 1) := by decide +kernel
theorem dX0_copyFrom_8 : decode cX0_copyFrom 8 = .ok (.aload_n 1, 1) := by decide +kernel
theorem dX0_copyFrom_9 : decode cX0_copyFrom 9 = .ok (.invokevirtual 19, 3) := by decide +kernel
theorem dX0_copyFrom_12 : decode cX0_copyFrom 12 = .ok (.if_icmp .ge 19, 3) := by decide +kernel
theorem dX0_copyFrom_15 : decode cX0_copyFrom 15 = .ok (.aload_n 0, 1) := by decide +kernel
theorem dX0_copyFrom_16 : decode cX0_copyFrom 16 = .ok (.aload_n 1, 1) := by decide +kernel
theorem dX0_copyFrom_17 : decode cX0_copyFrom 17 = .ok (.iload_n 2, 1) := by decide +kernel
theorem dX0_copyFrom_18 : decode cX0_copyFrom 18 = .ok (.invokevirtual 23, 3) := by decide +kernel
theorem dX0_copyFrom_21 : decode cX0_copyFrom 21 = .ok (.invokevirtual 27, 3) := by decide +kernel
theorem dX0_copyFrom_24 : decode cX0_copyFrom 24 = .ok (.pop, 1) := by decide +kernel
theorem dX0_copyFrom_25 : decode cX0_copyFrom 25 = .ok (.iinc 2 1, 3) := by decide +kernel
theorem dX0_copyFrom_28 : decode cX0_copyFrom 28 = .ok (.goto (-21), 3) := by decide +kernel
theorem dX0_copyFrom_31 : decode cX0_copyFrom 31 = .ok (.return_, 1) := by decide +kernel
set_option maxRecDepth 20000 in
theorem ggX1_init_X0_init : GoodIn wsX1_init wsX0_init := goodIn_r _ [17, 18, 2, 3, 11, 19, 20, 35, 36] (by decide +kernel) (by decide +kernel)
set_option maxRecDepth 20000 in
theorem gX1_init_X0_init : GoodIn wsX1_init (wsX0_init) := ggX1_init_X0_init
set_option maxRecDepth 20000 in
theorem ggX1_init_X1_begin : GoodIn wsX1_init wsX1_begin := goodIn_r _ [25, 26, 7, 8, 9, 13, 27, 28, 29, 6, 30, 20, 31, 32, 33, 24, 34, 12, 37, 38, 39, 40, 41, 42, 43, 44, 35, 36] (by decide +kernel) (by decide +kernel)
set_option maxRecDepth 20000 in
theorem gX1_init_X1_begin : GoodIn wsX1_init (wsV RX1 35 RX1 yX1_begin wsX1_begin) := goodIn_app (goodIn_of _ (by decide +kernel)) ggX1_init_X1_begin
theorem dX1_init_0 : decode cX1_init 0 = .ok (.aload_n 0, 1) := by decide +kernel
theorem dX1_init_1 : decode cX1_init 1 = .ok (.invokespecial 3, 3) := by decide +kernel
theorem dX1_init_4 : decode cX1_init 4 = .ok (.aload_n 0, 1) := by decide +kernel
theorem dX1_init_5 : decode cX1_init 5 = .ok (.new 9, 3) := by decide +kernel
theorem dX1_init_8 : decode cX1_init 8 = .ok (.dup, 1) := by decide +kernel
theorem dX1_init_9 : decode cX1_init 9 = .ok (.invokespecial 11, 3) := by decide +kernel
theorem dX1_init_12 : decode cX1_init 12 = .ok (.putfield 12, 3) := by decide +kernel
theorem dX1_init_15 : decode cX1_init 15 = .ok (.aload_n 0, 1) := by decide +kernel
theorem dX1_init_16 : decode cX1_init 16 = .ok (.new 9, 3) := by decide +kernel
theorem dX1_init_19 : decode cX1_init 19 = .ok (.dup, 1) := by decide +kernel
theorem dX1_init_20 : decode cX1_init 20 = .ok (.invokespecial 11, 3) := by decide +kernel
theorem dX1_init_23 : decode cX1_init 23 = .ok (.putfield 16, 3) := by decide +kernel
theorem dX1_init_26 : decode cX1_init 26 = .ok (.aload_n 0, 1) := by decide +kernel
theorem dX1_init_27 : decode cX1_init 27 = .ok (.new 9, 3) := by decide +kernel
theorem dX1_init_30 : decode cX1_init 30 = .ok (.dup, 1) := by decide +kernel
theorem dX1_init_31 : decode cX1_init 31 = .ok (.invokespecial 11, 3) := by decide +kernel
theorem dX1_init_34 : decode cX1_init 34 = .ok (.putfield 19, 3) := by decide +kernel
theorem dX1_init_37 : decode cX1_init 37 = .ok (.aload_n 0, 1) := by decide +kernel
theorem dX1_init_38 : decode cX1_init 38 = .ok (.new 9, 3) := by decide +kernel
theorem dX1_init_41 : decode cX1_init 41 = .ok (.dup, 1) := by decide +kernel
theorem dX1_init_42 : decode cX1_init 42 = .ok (.invokespecial 11, 3) := by decide +kernel
theorem dX1_init_45 : decode cX1_init 45 = .ok (.putfield 22, 3) := by decide +kernel
theorem dX1_init_48 : decode cX1_init 48 = .ok (.aload_n 0, 1) := by decide +kernel
theorem dX1_init_49 : decode cX1_init 49 = .ok (.sipush 256, 3) := by decide +kernel
theorem dX1_init_52 : decode cX1_init 52 = .ok (.newarray .int, 2) := by decide +kernel
theorem dX1_init_54 : decode cX1_init 54 = .ok (.putfield 25, 3) := by decide +kernel
theorem dX1_init_57 : decode cX1_init 57 = .ok (.aload_n 0, 1) := by decide +kernel
theorem dX1_init_58 : decode cX1_init 58 = .ok (.sipush 256, 3) := by decide +kernel
theorem dX1_init_61 : decode cX1_init 61 = .ok (.newarray .int, 2) := by decide +kernel
theorem dX1_init_63 : decode cX1_init 63 = .ok (.putfield 29, 3) := by decide +kernel
theorem dX1_init_66 : decode cX1_init 66 = .ok (.aload_n 0, 1) := by decide +kernel
theorem dX1_init_67 : decode cX1_init 67 = .ok (.sipush 256, 3) := by decide +kernel
theorem dX1_init_70 : decode cX1_init 70 = .ok (.newarray .int, 2) := by decide +kernel
theorem dX1_init_72 : decode cX1_init 72 = .ok (.putfield 32, 3) := by decide +kernel
theorem dX1_init_75 : decode cX1_init 75 = .ok (.aload_n 0, 1) := by decide +kernel
theorem dX1_init_76 : decode cX1_init 76 = .ok (.iconst 4, 1) := by decide +kernel
theorem dX1_init_77 : decode cX1_init 77 = .ok (.invokevirtual 35, 3) := by decide +kernel
theorem dX1_init_80 : decode cX1_init 80 = .ok (.return_, 1) := by decide +kernel
set_option maxRecDepth 20000 in
theorem ggX1_start_X1_begin : GoodIn wsX1_start wsX1_begin := goodIn_r _ [5, 6, 7, 8, 9, 10, 11, 12, 13, 14, 15, 16, 17, 18, 19, 4, 20, 21, 22, 23, 24, 25, 26, 27, 28, 29, 30, 31] (by decide +kernel) (by decide +kernel)
set_option maxRecDepth 20000 in
theorem gX1_start_X1_begin : GoodIn wsX1_start (wsV RX1 35 RX1 yX1_begin wsX1_begin) := goodIn_app (goodIn_of _ (by decide +kernel)) ggX1_start_X1_begin
theorem dX1_start_0 : decode cX1_start 0 = .ok (.iload_n 1, 1) := by decide +kernel
theorem dX1_start_1 : decode cX1_start 1 = .ok (.iconst 1, 1) := by decide +kernel
theorem dX1_start_2 : decode cX1_start 2 = .ok (.if_icmp .lt 9, 3) := by decide +kernel
theorem dX1_start_5 : decode cX1_start 5 = .ok (.iload_n 1, 1) := by decide +kernel
theorem dX1_start_6 : decode cX1_start 6 = .ok (.bipush 8, 2) := by decide +kernel
theorem dX1_start_8 : decode cX1_start 8 = .ok (.if_icmp .le 5, 3) := by decide +kernel
theorem dX1_start_11 : decode cX1_start 11 = .ok (.iconst 0, 1) := by decide +kernel
theorem dX1_start_12 : decode cX1_start 12 = .ok (.ireturn, 1) := by decide +kernel
theorem dX1_start_13 : decode cX1_start 13 = .ok (.aload_n 0, 1) := by decide +kernel
theorem dX1_start_14 : decode cX1_start 14 = .ok (.iload_n 1, 1) := by decide +kernel
theorem dX1_start_15 : decode cX1_start 15 = .ok (.invokevirtual 35, 3) := by decide +kernel
theorem dX1_start_18 : decode cX1_start 18 = .ok (.iconst 1, 1) := by decide +kernel
theorem dX1_start_19 : decode cX1_start 19 = .ok (.ireturn, 1) := by decide +kernel
theorem dX1_inputs_0 : decode cX1_inputs 0 = .ok (.aload_n 0, 1) := by decide +kernel
theorem dX1_inputs_1 : decode cX1_inputs 1 = .ok (.getfield 39, 3) := by decide +kernel
theorem dX1_inputs_4 : decode cX1_inputs 4 = .ok (.ireturn, 1) := by decide +kernel
set_option maxRecDepth 20000 in
theorem ggX1_on_X1_isCube : GoodIn wsX1_on wsX1_isCube := goodIn_r _ [7, 8, 34, 35, 36, 37, 38, 39, 40, 41] (by decide +kernel) (by decide +kernel)
set_option maxRecDepth 20000 in
theorem gX1_on_X1_isCube : GoodIn wsX1_on (wsV RX1 43 RX1 yX1_isCube wsX1_isCube) := goodIn_app (goodIn_of _ (by decide +kernel)) ggX1_on_X1_isCube
set_option maxRecDepth 20000 in
theorem ggX1_on_X0_append : GoodIn wsX1_on wsX0_append := goodIn_r _ [13, 14, 15, 42, 43] (by decide +kernel) (by decide +kernel)
set_option maxRecDepth 20000 in
theorem gX1_on_X0_append : GoodIn wsX1_on (wsV RX1 47 RX0 yX0_append wsX0_append) := goodIn_app (goodIn_of _ (by decide +kernel)) ggX1_on_X0_append
set_option maxRecDepth 20000 in
theorem ggX1_on_X1_markWanted : GoodIn wsX1_on wsX1_markWanted := goodIn_r _ [19, 20, 21, 22, 23, 6, 24, 8, 25, 26, 27, 28, 29, 34, 35, 36, 37, 38, 39, 40, 41] (by decide +kernel) (by decide +kernel)
set_option maxRecDepth 20000 in
theorem gX1_on_X1_markWanted : GoodIn wsX1_on (wsV RX1 50 RX1 yX1_markWanted wsX1_markWanted) := goodIn_app (goodIn_of _ (by decide +kernel)) ggX1_on_X1_markWanted
set_option maxRecDepth 20000 in
theorem ggX1_on_X0_clear : GoodIn wsX1_on wsX0_clear := goodIn_r _ [33, 14, 42, 43] (by decide +kernel) (by decide +kernel)
set_option maxRecDepth 20000 in
theorem gX1_on_X0_clear : GoodIn wsX1_on (wsV RX1 53 RX0 yX0_clear wsX0_clear) := goodIn_app (goodIn_of _ (by decide +kernel)) ggX1_on_X0_clear
theorem dX1_on_0 : decode cX1_on 0 = .ok (.aload_n 0, 1) := by decide +kernel
theorem dX1_on_1 : decode cX1_on 1 = .ok (.iload_n 1, 1) := by decide +kernel
theorem dX1_on_2 : decode cX1_on 2 = .ok (.invokevirtual 43, 3) := by decide +kernel
theorem dX1_on_5 : decode cX1_on 5 = .ok (.ifCond .eq 14, 3) := by decide +kernel
theorem dX1_on_8 : decode cX1_on 8 = .ok (.aload_n 0, 1) := by decide +kernel
theorem dX1_on_9 : decode cX1_on 9 = .ok (.getfield 12, 3) := by decide +kernel
theorem dX1_on_12 : decode cX1_on 12 = .ok (.iload_n 1, 1) := by decide +kernel
theorem dX1_on_13 : decode cX1_on 13 = .ok (.invokevirtual 47, 3) := by decide +kernel
theorem dX1_on_16 : decode cX1_on 16 = .ok (.ifCond .ne 5, 3) := by decide +kernel
theorem dX1_on_19 : decode cX1_on 19 = .ok (.iconst 0, 1) := by decide +kernel
theorem dX1_on_20 : decode cX1_on 20 = .ok (.ireturn, 1) := by decide +kernel
theorem dX1_on_21 : decode cX1_on 21 = .ok (.aload_n 0, 1) := by decide +kernel
theorem dX1_on_22 : decode cX1_on 22 = .ok (.iload_n 1, 1) := by decide +kernel
theorem dX1_on_23 : decode cX1_on 23 = .ok (.invokevirtual 50, 3) := by decide +kernel
theorem dX1_on_26 : decode cX1_on 26 = .ok (.aload_n 0, 1) := by decide +kernel
theorem dX1_on_27 : decode cX1_on 27 = .ok (.getfield 19, 3) := by decide +kernel
theorem dX1_on_30 : decode cX1_on 30 = .ok (.invokevirtual 53, 3) := by decide +kernel
theorem dX1_on_33 : decode cX1_on 33 = .ok (.iconst 1, 1) := by decide +kernel
theorem dX1_on_34 : decode cX1_on 34 = .ok (.ireturn, 1) := by decide +kernel
set_option maxRecDepth 20000 in
theorem ggX1_dc_X1_isCube : GoodIn wsX1_dc wsX1_isCube := goodIn_r _ [7, 8, 34, 35, 36, 37, 38, 39, 40, 41] (by decide +kernel) (by decide +kernel)
set_option maxRecDepth 20000 in
theorem gX1_dc_X1_isCube : GoodIn wsX1_dc (wsV RX1 43 RX1 yX1_isCube wsX1_isCube) := goodIn_app (goodIn_of _ (by decide +kernel)) ggX1_dc_X1_isCube
set_option maxRecDepth 20000 in
theorem ggX1_dc_X0_append : GoodIn wsX1_dc wsX0_append := goodIn_r _ [13, 14, 15, 42, 43] (by decide +kernel) (by decide +kernel)
set_option maxRecDepth 20000 in
theorem gX1_dc_X0_append : GoodIn wsX1_dc (wsV RX1 47 RX0 yX0_append wsX0_append) := goodIn_app (goodIn_of _ (by decide +kernel)) ggX1_dc_X0_append
set_option maxRecDepth 20000 in
theorem ggX1_dc_X1_markIndifferent : GoodIn wsX1_dc wsX1_markIndifferent := goodIn_r _ [19, 20, 21, 22, 23, 6, 24, 8, 25, 26, 27, 28, 29, 34, 35, 36, 37, 38, 39, 40, 41] (by decide +kernel) (by decide +kernel)
set_option maxRecDepth 20000 in
theorem gX1_dc_X1_markIndifferent : GoodIn wsX1_dc (wsV RX1 56 RX1 yX1_markIndifferent wsX1_markIndifferent) := goodIn_app (goodIn_of _ (by decide +kernel)) ggX1_dc_X1_markIndifferent
set_option maxRecDepth 20000 in
theorem ggX1_dc_X0_clear : GoodIn wsX1_dc wsX0_clear := goodIn_r _ [33, 14, 42, 43] (by decide +kernel) (by decide +kernel)
set_option maxRecDepth 20000 in
theorem gX1_dc_X0_clear : GoodIn wsX1_dc (wsV RX1 53 RX0 yX0_clear wsX0_clear) := goodIn_app (goodIn_of _ (by decide +kernel)) ggX1_dc_X0_clear
theorem dX1_dc_0 : decode cX1_dc 0 = .ok (.aload_n 0, 1) := by decide +kernel
theorem dX1_dc_1 : decode cX1_dc 1 = .ok (.iload_n 1, 1) := by decide +kernel
theorem dX1_dc_2 : decode cX1_dc 2 = .ok (.invokevirtual 43, 3) := by decide +kernel
theorem dX1_dc_5 : decode cX1_dc 5 = .ok (.ifCond .eq 14, 3) := by decide +kernel
theorem dX1_dc_8 : decode cX1_dc 8 = .ok (.aload_n 0, 1) := by decide +kernel
theorem dX1_dc_9 : decode cX1_dc 9 = .ok (.getfield 16, 3) := by decide +kernel
theorem dX1_dc_12 : decode cX1_dc 12 = .ok (.iload_n 1, 1) := by decide +kernel
theorem dX1_dc_13 : decode cX1_dc 13 = .ok (.invokevirtual 47, 3) := by decide +kernel
theorem dX1_dc_16 : decode cX1_dc 16 = .ok (.ifCond .ne 5, 3) := by decide +kernel
theorem dX1_dc_19 : decode cX1_dc 19 = .ok (.iconst 0, 1) := by decide +kernel
theorem dX1_dc_20 : decode cX1_dc 20 = .ok (.ireturn, 1) := by decide +kernel
theorem dX1_dc_21 : decode cX1_dc 21 = .ok (.aload_n 0, 1) := by decide +kernel
theorem dX1_dc_22 : decode cX1_dc 22 = .ok (.iload_n 1, 1) := by decide +kernel
theorem dX1_dc_23 : decode cX1_dc 23 = .ok (.invokevirtual 56, 3) := by decide +kernel
theorem dX1_dc_26 : decode cX1_dc 26 = .ok (.aload_n 0, 1) := by decide +kernel
theorem dX1_dc_27 : decode cX1_dc 27 = .ok (.getfield 19, 3) := by decide +kernel
theorem dX1_dc_30 : decode cX1_dc 30 = .ok (.invokevirtual 53, 3) := by decide +kernel
theorem dX1_dc_33 : decode cX1_dc 33 = .ok (.iconst 1, 1) := by decide +kernel
theorem dX1_dc_34 : decode cX1_dc 34 = .ok (.ireturn, 1) := by decide +kernel
set_option maxRecDepth 20000 in
theorem ggX1_size_X1_listAt : GoodIn wsX1_size wsX1_listAt := goodIn_r _ [5, 6, 7, 8, 15, 16, 17, 18, 19, 20, 21, 22] (by decide +kernel) (by decide +kernel)
set_option maxRecDepth 20000 in
theorem gX1_size_X1_listAt : GoodIn wsX1_size (wsV RX1 59 RX1 yX1_listAt wsX1_listAt) := goodIn_app (goodIn_of _ (by decide +kernel)) ggX1_size_X1_listAt
set_option maxRecDepth 20000 in
theorem ggX1_size_X0_length : GoodIn wsX1_size wsX0_length := goodIn_r _ [13, 14, 23, 24] (by decide +kernel) (by decide +kernel)
set_option maxRecDepth 20000 in
theorem gX1_size_X0_length : GoodIn wsX1_size (wsV RX1 63 RX0 yX0_length wsX0_length) := goodIn_app (goodIn_of _ (by decide +kernel)) ggX1_size_X0_length
theorem dX1_size_0 : decode cX1_size 0 = .ok (.aload_n 0, 1) := by decide +kernel
theorem dX1_size_1 : decode cX1_size 1 = .ok (.iload_n 1, 1) := by decide +kernel
theorem dX1_size_2 : decode cX1_size 2 = .ok (.invokevirtual 59, 3) := by decide +kernel
theorem dX1_size_5 : decode cX1_size 5 = .ok (.astore_n 2, 1) := by decide +kernel
theorem dX1_size_6 : decode cX1_size 6 = .ok (.aload_n 2, 1) := by decide +kernel
theorem dX1_size_7 : decode cX1_size 7 = .ok (.ifnonnull 7, 3) := by decide +kernel
theorem dX1_size_10 : decode cX1_size 10 = .ok (.iconst (-1), 1) := by decide +kernel
theorem dX1_size_11 : decode cX1_size 11 = .ok (.goto 7, 3) := by decide +kernel
theorem dX1_size_14 : decode cX1_size 14 = .ok (.aload_n 2, 1) := by decide +kernel
theorem dX1_size_15 : decode cX1_size 15 = .ok (.invokevirtual 63, 3) := by decide +kernel
theorem dX1_size_18 : decode cX1_size 18 = .ok (.ireturn, 1) := by decide +kernel
set_option maxRecDepth 20000 in
theorem ggX1_cube_X1_listAt : GoodIn wsX1_cube wsX1_listAt := goodIn_r _ [5, 6, 7, 8, 16, 17, 18, 19, 20, 21, 22, 23] (by decide +kernel) (by decide +kernel)
set_option maxRecDepth 20000 in
theorem gX1_cube_X1_listAt : GoodIn wsX1_cube (wsV RX1 59 RX1 yX1_listAt wsX1_listAt) := goodIn_app (goodIn_of _ (by decide +kernel)) ggX1_cube_X1_listAt
set_option maxRecDepth 20000 in
theorem ggX1_cube_X0_at : GoodIn wsX1_cube wsX0_at := goodIn_r _ [13, 14, 15, 24, 25] (by decide +kernel) (by decide +kernel)
set_option maxRecDepth 20000 in
theorem gX1_cube_X0_at : GoodIn wsX1_cube (wsV RX1 67 RX0 yX0_at wsX0_at) := goodIn_app (goodIn_of _ (by decide +kernel)) ggX1_cube_X0_at
theorem dX1_cube_0 : decode cX1_cube 0 = .ok (.aload_n 0, 1) := by decide +kernel
theorem dX1_cube_1 : decode cX1_cube 1 = .ok (.iload_n 1, 1) := by decide +kernel
theorem dX1_cube_2 : decode cX1_cube 2 = .ok (.invokevirtual 59, 3) := by decide +kernel
theorem dX1_cube_5 : decode cX1_cube 5 = .ok (.astore_n 3, 1) := by decide +kernel
theorem dX1_cube_6 : decode cX1_cube 6 = .ok (.aload_n 3, 1) := by decide +kernel
theorem dX1_cube_7 : decode cX1_cube 7 = .ok (.ifnonnull 7, 3) := by decide +kernel
theorem dX1_cube_10 : decode cX1_cube 10 = .ok (.iconst (-1), 1) := by decide +kernel
theorem dX1_cube_11 : decode cX1_cube 11 = .ok (.goto 8, 3) := by decide +kernel
theorem dX1_cube_14 : decode cX1_cube 14 = .ok (.aload_n 3, 1) := by decide +kernel
theorem dX1_cube_15 : decode cX1_cube 15 = .ok (.iload_n 2, 1) := by decide +kernel
theorem dX1_cube_16 : decode cX1_cube 16 = .ok (.invokevirtual 67, 3) := by decide +kernel
theorem dX1_cube_19 : decode cX1_cube 19 = .ok (.ireturn, 1) := by decide +kernel
set_option maxRecDepth 20000 in
theorem ggX1_literals_X1_listAt : GoodIn wsX1_literals wsX1_listAt := goodIn_r _ [5, 6, 7, 8, 28, 29, 30, 31, 32, 33, 34, 35] (by decide +kernel) (by decide +kernel)
set_option maxRecDepth 20000 in
theorem gX1_literals_X1_listAt : GoodIn wsX1_literals (wsV RX1 59 RX1 yX1_listAt wsX1_listAt) := goodIn_app (goodIn_of _ (by decide +kernel)) ggX1_literals_X1_listAt
set_option maxRecDepth 20000 in
theorem ggX1_literals_X1_countLiterals : GoodIn wsX1_literals wsX1_countLiterals := goodIn_r _ [12, 13, 14, 15, 16, 17, 18, 19, 20, 21, 22, 23, 24, 25, 26, 4, 27, 28, 29, 30, 31, 32, 33, 34, 35, 36, 37] (by decide +kernel) (by decide +kernel)
set_option maxRecDepth 20000 in
theorem gX1_literals_X1_countLiterals : GoodIn wsX1_literals (wsV RX1 71 RX1 yX1_countLiterals wsX1_countLiterals) := goodIn_app (goodIn_of _ (by decide +kernel)) ggX1_literals_X1_countLiterals
theorem dX1_literals_0 : decode cX1_literals 0 = .ok (.aload_n 0, 1) := by decide +kernel
theorem dX1_literals_1 : decode cX1_literals 1 = .ok (.iload_n 1, 1) := by decide +kernel
theorem dX1_literals_2 : decode cX1_literals 2 = .ok (.invokevirtual 59, 3) := by decide +kernel
theorem dX1_literals_5 : decode cX1_literals 5 = .ok (.astore_n 2, 1) := by decide +kernel
theorem dX1_literals_6 : decode cX1_literals 6 = .ok (.aload_n 2, 1) := by decide +kernel
theorem dX1_literals_7 : decode cX1_literals 7 = .ok (.ifnonnull 7, 3) := by decide +kernel
theorem dX1_literals_10 : decode cX1_literals 10 = .ok (.iconst (-1), 1) := by decide +kernel
theorem dX1_literals_11 : decode cX1_literals 11 = .ok (.goto 8, 3) := by decide +kernel
theorem dX1_literals_14 : decode cX1_literals 14 = .ok (.aload_n 0, 1) := by decide +kernel
theorem dX1_literals_15 : decode cX1_literals 15 = .ok (.aload_n 2, 1) := by decide +kernel
theorem dX1_literals_16 : decode cX1_literals 16 = .ok (.invokevirtual 71, 3) := by decide +kernel
theorem dX1_literals_19 : decode cX1_literals 19 = .ok (.ireturn, 1) := by decide +kernel
set_option maxRecDepth 20000 in
theorem ggX1_kind_X1_isPoint : GoodIn wsX1_kind wsX1_isPoint := goodIn_r _ [6, 7, 8, 9, 5, 10, 11, 12, 13, 14, 15, 16, 17, 18, 19] (by decide +kernel) (by decide +kernel)
set_option maxRecDepth 20000 in
theorem gX1_kind_X1_isPoint : GoodIn wsX1_kind (wsV RX1 75 RX1 yX1_isPoint wsX1_isPoint) := goodIn_app (goodIn_of _ (by decide +kernel)) ggX1_kind_X1_isPoint
theorem dX1_kind_0 : decode cX1_kind 0 = .ok (.aload_n 0, 1) := by decide +kernel
theorem dX1_kind_1 : decode cX1_kind 1 = .ok (.iload_n 1, 1) := by decide +kernel
theorem dX1_kind_2 : decode cX1_kind 2 = .ok (.invokevirtual 75, 3) := by decide +kernel
theorem dX1_kind_5 : decode cX1_kind 5 = .ok (.ifCond .eq 12, 3) := by decide +kernel
theorem dX1_kind_8 : decode cX1_kind 8 = .ok (.aload_n 0, 1) := by decide +kernel
theorem dX1_kind_9 : decode cX1_kind 9 = .ok (.getfield 29, 3) := by decide +kernel
theorem dX1_kind_12 : decode cX1_kind 12 = .ok (.iload_n 1, 1) := by decide +kernel
theorem dX1_kind_13 : decode cX1_kind 13 = .ok (.iaload, 1) := by decide +kernel
theorem dX1_kind_14 : decode cX1_kind 14 = .ok (.goto 4, 3) := by decide +kernel
theorem dX1_kind_17 : decode cX1_kind 17 = .ok (.iconst (-1), 1) := by decide +kernel
theorem dX1_kind_18 : decode cX1_kind 18 = .ok (.ireturn, 1) := by decide +kernel
set_option maxRecDepth 20000 in
theorem ggX1_holds_X1_listAt : GoodIn wsX1_holds wsX1_listAt := goodIn_r _ [5, 6, 7, 8, 38, 39, 40, 41, 42, 43, 44, 45] (by decide +kernel) (by decide +kernel)
set_option maxRecDepth 20000 in
theorem gX1_holds_X1_listAt : GoodIn wsX1_holds (wsV RX1 59 RX1 yX1_listAt wsX1_listAt) := goodIn_app (goodIn_of _ (by decide +kernel)) ggX1_holds_X1_listAt
set_option maxRecDepth 20000 in
theorem ggX1_holds_X1_isPoint : GoodIn wsX1_holds wsX1_isPoint := goodIn_r _ [12, 13, 14, 15, 4, 16, 17, 38, 39, 40, 41, 42, 43, 44, 45] (by decide +kernel) (by decide +kernel)
set_option maxRecDepth 20000 in
theorem gX1_holds_X1_isPoint : GoodIn wsX1_holds (wsV RX1 75 RX1 yX1_isPoint wsX1_isPoint) := goodIn_app (goodIn_of _ (by decide +kernel)) ggX1_holds_X1_isPoint
set_option maxRecDepth 20000 in
theorem ggX1_holds_X1_isInList : GoodIn wsX1_holds wsX1_isInList := goodIn_r _ [21, 22, 23, 24, 25, 26, 27, 28, 29, 30, 31, 32, 33, 34, 35, 4, 36, 37, 46, 47, 38, 39, 40, 41, 42, 43, 44, 45] (by decide +kernel) (by decide +kernel)
set_option maxRecDepth 20000 in
theorem gX1_holds_X1_isInList : GoodIn wsX1_holds (wsV RX1 78 RX1 yX1_isInList wsX1_isInList) := goodIn_app (goodIn_of _ (by decide +kernel)) ggX1_holds_X1_isInList
theorem dX1_holds_0 : decode cX1_holds 0 = .ok (.aload_n 0, 1) := by decide +kernel
theorem dX1_holds_1 : decode cX1_holds 1 = .ok (.iload_n 1, 1) := by decide +kernel
theorem dX1_holds_2 : decode cX1_holds 2 = .ok (.invokevirtual 59, 3) := by decide +kernel
theorem dX1_holds_5 : decode cX1_holds 5 = .ok (.astore_n 3, 1) := by decide +kernel
theorem dX1_holds_6 : decode cX1_holds 6 = .ok (.aload_n 3, 1) := by decide +kernel
theorem dX1_holds_7 : decode cX1_holds 7 = .ok (.ifnull 24, 3) := by decide +kernel
theorem dX1_holds_10 : decode cX1_holds 10 = .ok (.aload_n 0, 1) := by decide +kernel
theorem dX1_holds_11 : decode cX1_holds 11 = .ok (.iload_n 2, 1) := by decide +kernel
theorem dX1_holds_12 : decode cX1_holds 12 = .ok (.invokevirtual 75, 3) := by decide +kernel
theorem dX1_holds_15 : decode cX1_holds 15 = .ok (.ifCond .eq 16, 3) := by decide +kernel
theorem dX1_holds_18 : decode cX1_holds 18 = .ok (.aload_n 0, 1) := by decide +kernel
theorem dX1_holds_19 : decode cX1_holds 19 = .ok (.aload_n 3, 1) := by decide +kernel
theorem dX1_holds_20 : decode cX1_holds 20 = .ok (.iload_n 2, 1) := by decide +kernel
theorem dX1_holds_21 : decode cX1_holds 21 = .ok (.invokevirtual 78, 3) := by decide +kernel
theorem dX1_holds_24 : decode cX1_holds 24 = .ok (.ifCond .eq 7, 3) := by decide +kernel
theorem dX1_holds_27 : decode cX1_holds 27 = .ok (.iconst 1, 1) := by decide +kernel
theorem dX1_holds_28 : decode cX1_holds 28 = .ok (.goto 4, 3) := by decide +kernel
theorem dX1_holds_31 : decode cX1_holds 31 = .ok (.iconst 0, 1) := by decide +kernel
theorem dX1_holds_32 : decode cX1_holds 32 = .ok (.ireturn, 1) := by decide +kernel
set_option maxRecDepth 20000 in
theorem ggX1_missing_X1_listAt : GoodIn wsX1_missing wsX1_listAt := goodIn_r _ [5, 6, 7, 8, 38, 39, 40, 41, 42, 43, 44, 45] (by decide +kernel) (by decide +kernel)
set_option maxRecDepth 20000 in
theorem gX1_missing_X1_listAt : GoodIn wsX1_missing (wsV RX1 59 RX1 yX1_listAt wsX1_listAt) := goodIn_app (goodIn_of _ (by decide +kernel)) ggX1_missing_X1_listAt
set_option maxRecDepth 20000 in
theorem ggX1_missing_X1_countMissing : GoodIn wsX1_missing wsX1_countMissing := goodIn_r _ [12, 13, 14, 15, 4, 16, 17, 18, 19, 20, 21, 22, 23, 24, 25, 26, 27, 28, 29, 30, 31, 32, 33, 34, 35, 36, 37, 38, 39, 40, 41, 42, 43, 44, 45, 46, 47] (by decide +kernel) (by decide +kernel)
set_option maxRecDepth 20000 in
theorem gX1_missing_X1_countMissing : GoodIn wsX1_missing (wsV RX1 82 RX1 yX1_countMissing wsX1_countMissing) := goodIn_app (goodIn_of _ (by decide +kernel)) ggX1_missing_X1_countMissing
theorem dX1_missing_0 : decode cX1_missing 0 = .ok (.aload_n 0, 1) := by decide +kernel
theorem dX1_missing_1 : decode cX1_missing 1 = .ok (.iload_n 1, 1) := by decide +kernel
theorem dX1_missing_2 : decode cX1_missing 2 = .ok (.invokevirtual 59, 3) := by decide +kernel
theorem dX1_missing_5 : decode cX1_missing 5 = .ok (.astore_n 2, 1) := by decide +kernel
theorem dX1_missing_6 : decode cX1_missing 6 = .ok (.aload_n 2, 1) := by decide +kernel
theorem dX1_missing_7 : decode cX1_missing 7 = .ok (.ifnonnull 7, 3) := by decide +kernel
theorem dX1_missing_10 : decode cX1_missing 10 = .ok (.iconst (-1), 1) := by decide +kernel
theorem dX1_missing_11 : decode cX1_missing 11 = .ok (.goto 8, 3) := by decide +kernel
theorem dX1_missing_14 : decode cX1_missing 14 = .ok (.aload_n 0, 1) := by decide +kernel
theorem dX1_missing_15 : decode cX1_missing 15 = .ok (.aload_n 2, 1) := by decide +kernel
theorem dX1_missing_16 : decode cX1_missing 16 = .ok (.invokevirtual 82, 3) := by decide +kernel
theorem dX1_missing_19 : decode cX1_missing 19 = .ok (.ireturn, 1) := by decide +kernel
set_option maxRecDepth 20000 in
theorem ggX1_tautology_X1_listAt : GoodIn wsX1_tautology wsX1_listAt := goodIn_r _ [5, 6, 7, 8, 38, 39, 40, 41, 42, 43, 44, 45] (by decide +kernel) (by decide +kernel)
set_option maxRecDepth 20000 in
theorem gX1_tautology_X1_listAt : GoodIn wsX1_tautology (wsV RX1 59 RX1 yX1_listAt wsX1_listAt) := goodIn_app (goodIn_of _ (by decide +kernel)) ggX1_tautology_X1_listAt
set_option maxRecDepth 20000 in
theorem ggX1_tautology_X1_countMissing : GoodIn wsX1_tautology wsX1_countMissing := goodIn_r _ [12, 13, 14, 15, 4, 16, 17, 18, 19, 20, 21, 22, 23, 24, 25, 26, 27, 28, 29, 30, 31, 32, 33, 34, 35, 36, 37, 38, 39, 40, 41, 42, 43, 44, 45, 46, 47] (by decide +kernel) (by decide +kernel)
set_option maxRecDepth 20000 in
theorem gX1_tautology_X1_countMissing : GoodIn wsX1_tautology (wsV RX1 82 RX1 yX1_countMissing wsX1_countMissing) := goodIn_app (goodIn_of _ (by decide +kernel)) ggX1_tautology_X1_countMissing
theorem dX1_tautology_0 : decode cX1_tautology 0 = .ok (.aload_n 0, 1) := by decide +kernel
theorem dX1_tautology_1 : decode cX1_tautology 1 = .ok (.iload_n 1, 1) := by decide +kernel
theorem dX1_tautology_2 : decode cX1_tautology 2 = .ok (.invokevirtual 59, 3) := by decide +kernel
theorem dX1_tautology_5 : decode cX1_tautology 5 = .ok (.astore_n 2, 1) := by decide +kernel
theorem dX1_tautology_6 : decode cX1_tautology 6 = .ok (.aload_n 2, 1) := by decide +kernel
theorem dX1_tautology_7 : decode cX1_tautology 7 = .ok (.ifnull 15, 3) := by decide +kernel
theorem dX1_tautology_10 : decode cX1_tautology 10 = .ok (.aload_n 0, 1) := by decide +kernel
theorem dX1_tautology_11 : decode cX1_tautology 11 = .ok (.aload_n 2, 1) := by decide +kernel
theorem dX1_tautology_12 : decode cX1_tautology 12 = .ok (.invokevirtual 82, 3) := by decide +kernel
theorem dX1_tautology_15 : decode cX1_tautology 15 = .ok (.ifCond .ne 7, 3) := by decide +kernel
theorem dX1_tautology_18 : decode cX1_tautology 18 = .ok (.iconst 1, 1) := by decide +kernel
theorem dX1_tautology_19 : decode cX1_tautology 19 = .ok (.goto 4, 3) := by decide +kernel
theorem dX1_tautology_22 : decode cX1_tautology 22 = .ok (.iconst 0, 1) := by decide +kernel
theorem dX1_tautology_23 : decode cX1_tautology 23 = .ok (.ireturn, 1) := by decide +kernel
set_option maxRecDepth 20000 in
theorem ggX1_same_X1_listAt : GoodIn wsX1_same wsX1_listAt := goodIn_r _ [5, 6, 7, 8, 39, 40, 41, 42, 43, 44, 45, 46] (by decide +kernel) (by decide +kernel)
set_option maxRecDepth 20000 in
theorem gX1_same_X1_listAt : GoodIn wsX1_same (wsV RX1 59 RX1 yX1_listAt wsX1_listAt) := goodIn_app (goodIn_of _ (by decide +kernel)) ggX1_same_X1_listAt
set_option maxRecDepth 20000 in
theorem ggX1_same_X1_agree : GoodIn wsX1_same wsX1_agree := goodIn_r _ [12, 13, 14, 15, 16, 4, 17, 18, 19, 20, 21, 22, 23, 24, 25, 26, 27, 28, 29, 30, 31, 32, 33, 34, 35, 36, 37, 38, 39, 40, 41, 42, 43, 44, 45, 46, 47, 48] (by decide +kernel) (by decide +kernel)
set_option maxRecDepth 20000 in
theorem gX1_same_X1_agree : GoodIn wsX1_same (wsV RX1 85 RX1 yX1_agree wsX1_agree) := goodIn_app (goodIn_of _ (by decide +kernel)) ggX1_same_X1_agree
theorem dX1_same_0 : decode cX1_same 0 = .ok (.aload_n 0, 1) := by decide +kernel
theorem dX1_same_1 : decode cX1_same 1 = .ok (.iload_n 1, 1) := by decide +kernel
theorem dX1_same_2 : decode cX1_same 2 = .ok (.invokevirtual 59, 3) := by decide +kernel
theorem dX1_same_5 : decode cX1_same 5 = .ok (.astore_n 3, 1) := by decide +kernel
theorem dX1_same_6 : decode cX1_same 6 = .ok (.aload_n 0, 1) := by decide +kernel
theorem dX1_same_7 : decode cX1_same 7 = .ok (.iload_n 2, 1) := by decide +kernel
theorem dX1_same_8 : decode cX1_same 8 = .ok (.invokevirtual 59, 3) := by decide +kernel
theorem dX1_same_11 : decode cX1_same 11 = .ok (.astore 4, 2) := by decide +kernel
theorem dX1_same_13 : decode cX1_same 13 = .ok (.aload_n 3, 1) := by decide +kernel
theorem dX1_same_14 : decode cX1_same 14 = .ok (.ifnull 22, 3) := by decide +kernel
theorem dX1_same_17 : decode cX1_same 17 = .ok (.aload 4, 2) := by decide +kernel
theorem dX1_same_19 : decode cX1_same 19 = .ok (.ifnull 17, 3) := by decide +kernel
theorem dX1_same_22 : decode cX1_same 22 = .ok (.aload_n 0, 1) := by decide +kernel
theorem dX1_same_23 : decode cX1_same 23 = .ok (.aload_n 3, 1) := by decide +kernel
theorem dX1_same_24 : decode cX1_same 24 = .ok (.aload 4, 2) := by decide +kernel
theorem dX1_same_26 : decode cX1_same 26 = .ok (.invokevirtual 85, 3) := by decide +kernel
theorem dX1_same_29 : decode cX1_same 29 = .ok (.ifCond .eq 7, 3) := by decide +kernel
theorem dX1_same_32 : decode cX1_same 32 = .ok (.iconst 1, 1) := by decide +kernel
theorem dX1_same_33 : decode cX1_same 33 = .ok (.goto 4, 3) := by decide +kernel
theorem dX1_same_36 : decode cX1_same 36 = .ok (.iconst 0, 1) := by decide +kernel
theorem dX1_same_37 : decode cX1_same 37 = .ok (.ireturn, 1) := by decide +kernel
set_option maxRecDepth 20000 in
theorem ggX1_prime_X1_listAt : GoodIn wsX1_prime wsX1_listAt := goodIn_r _ [5, 6, 7, 8, 42, 43, 44, 45, 46, 47, 48, 49] (by decide +kernel) (by decide +kernel)
set_option maxRecDepth 20000 in
theorem gX1_prime_X1_listAt : GoodIn wsX1_prime (wsV RX1 59 RX1 yX1_listAt wsX1_listAt) := goodIn_app (goodIn_of _ (by decide +kernel)) ggX1_prime_X1_listAt
set_option maxRecDepth 20000 in
theorem ggX1_prime_X0_at : GoodIn wsX1_prime wsX0_at := goodIn_r _ [13, 14, 15, 50, 51] (by decide +kernel) (by decide +kernel)
set_option maxRecDepth 20000 in
theorem gX1_prime_X0_at : GoodIn wsX1_prime (wsV RX1 67 RX0 yX0_at wsX0_at) := goodIn_app (goodIn_of _ (by decide +kernel)) ggX1_prime_X0_at
set_option maxRecDepth 20000 in
theorem ggX1_prime_X1_isVoid : GoodIn wsX1_prime wsX1_isVoid := goodIn_r _ [19, 20, 42, 43, 44, 45, 46, 47, 48, 49] (by decide +kernel) (by decide +kernel)
set_option maxRecDepth 20000 in
theorem gX1_prime_X1_isVoid : GoodIn wsX1_prime (wsV RX1 89 RX1 yX1_isVoid wsX1_isVoid) := goodIn_app (goodIn_of _ (by decide +kernel)) ggX1_prime_X1_isVoid
set_option maxRecDepth 20000 in
theorem ggX1_prime_X1_touches : GoodIn wsX1_prime wsX1_touches := goodIn_r _ [24, 25, 26, 27, 28, 4, 29, 20, 30, 31, 32, 33, 34, 42, 43, 44, 45, 46, 47, 48, 49] (by decide +kernel) (by decide +kernel)
set_option maxRecDepth 20000 in
theorem gX1_prime_X1_touches : GoodIn wsX1_prime (wsV RX1 92 RX1 yX1_touches wsX1_touches) := goodIn_app (goodIn_of _ (by decide +kernel)) ggX1_prime_X1_touches
set_option maxRecDepth 20000 in
theorem ggX1_prime_X1_cannotGrow : GoodIn wsX1_prime wsX1_cannotGrow := goodIn_r _ [38, 20, 39, 40, 4, 41, 21, 22, 23, 24, 25, 26, 27, 28, 29, 30, 31, 32, 33, 34, 42, 43, 44, 45, 46, 47, 48, 49] (by decide +kernel) (by decide +kernel)
set_option maxRecDepth 20000 in
theorem gX1_prime_X1_cannotGrow : GoodIn wsX1_prime (wsV RX1 95 RX1 yX1_cannotGrow wsX1_cannotGrow) := goodIn_app (goodIn_of _ (by decide +kernel)) ggX1_prime_X1_cannotGrow
theorem dX1_prime_0 : decode cX1_prime 0 = .ok (.aload_n 0, 1) := by decide +kernel
theorem dX1_prime_1 : decode cX1_prime 1 = .ok (.iload_n 1, 1) := by decide +kernel
theorem dX1_prime_2 : decode cX1_prime 2 = .ok (.invokevirtual 59, 3) := by decide +kernel
theorem dX1_prime_5 : decode cX1_prime 5 = .ok (.astore_n 3, 1) := by decide +kernel
theorem dX1_prime_6 : decode cX1_prime 6 = .ok (.aload_n 3, 1) := by decide +kernel
theorem dX1_prime_7 : decode cX1_prime 7 = .ok (.ifnonnull 5, 3) := by decide +kernel
theorem dX1_prime_10 : decode cX1_prime 10 = .ok (.iconst 0, 1) := by decide +kernel
theorem dX1_prime_11 : decode cX1_prime 11 = .ok (.ireturn, 1) := by decide +kernel
theorem dX1_prime_12 : decode cX1_prime 12 = .ok (.aload_n 3, 1) := by decide +kernel
theorem dX1_prime_13 : decode cX1_prime 13 = .ok (.iload_n 2, 1) := by decide +kernel
theorem dX1_prime_14 : decode cX1_prime 14 = .ok (.invokevirtual 67, 3) := by decide +kernel
theorem dX1_prime_17 : decode cX1_prime 17 = .ok (.istore 4, 2) := by decide +kernel
theorem dX1_prime_19 : decode cX1_prime 19 = .ok (.iload 4, 2) := by decide +kernel
theorem dX1_prime_21 : decode cX1_prime 21 = .ok (.iconst (-1), 1) := by decide +kernel
theorem dX1_prime_22 : decode cX1_prime 22 = .ok (.if_icmp .eq 34, 3) := by decide +kernel
theorem dX1_prime_25 : decode cX1_prime 25 = .ok (.aload_n 0, 1) := by decide +kernel
theorem dX1_prime_26 : decode cX1_prime 26 = .ok (.iload 4, 2) := by decide +kernel
theorem dX1_prime_28 : decode cX1_prime 28 = .ok (.invokevirtual 89, 3) := by decide +kernel
theorem dX1_prime_31 : decode cX1_prime 31 = .ok (.ifCond .ne 25, 3) := by decide +kernel
theorem dX1_prime_34 : decode cX1_prime 34 = .ok (.aload_n 0, 1) := by decide +kernel
theorem dX1_prime_35 : decode cX1_prime 35 = .ok (.iload 4, 2) := by decide +kernel
theorem dX1_prime_37 : decode cX1_prime 37 = .ok (.invokevirtual 92, 3) := by decide +kernel
theorem dX1_prime_40 : decode cX1_prime 40 = .ok (.ifCond .ne 16, 3) := by decide +kernel
theorem dX1_prime_43 : decode cX1_prime 43 = .ok (.aload_n 0, 1) := by decide +kernel
theorem dX1_prime_44 : decode cX1_prime 44 = .ok (.iload 4, 2) := by decide +kernel
theorem dX1_prime_46 : decode cX1_prime 46 = .ok (.invokevirtual 95, 3) := by decide +kernel
theorem dX1_prime_49 : decode cX1_prime 49 = .ok (.ifCond .eq 7, 3) := by decide +kernel
theorem dX1_prime_52 : decode cX1_prime 52 = .ok (.iconst 1, 1) := by decide +kernel
theorem dX1_prime_53 : decode cX1_prime 53 = .ok (.goto 4, 3) := by decide +kernel
theorem dX1_prime_56 : decode cX1_prime 56 = .ok (.iconst 0, 1) := by decide +kernel
theorem dX1_prime_57 : decode cX1_prime 57 = .ok (.ireturn, 1) := by decide +kernel
set_option maxRecDepth 20000 in
theorem ggX1_widen_X1_isCube : GoodIn wsX1_widen wsX1_isCube := goodIn_r _ [5, 6, 32, 33, 34, 35, 36, 37, 38, 39] (by decide +kernel) (by decide +kernel)
set_option maxRecDepth 20000 in
theorem gX1_widen_X1_isCube : GoodIn wsX1_widen (wsV RX1 43 RX1 yX1_isCube wsX1_isCube) := goodIn_app (goodIn_of _ (by decide +kernel)) ggX1_widen_X1_isCube
set_option maxRecDepth 20000 in
theorem ggX1_widen_X1_isVoid : GoodIn wsX1_widen wsX1_isVoid := goodIn_r _ [10, 6, 32, 33, 34, 35, 36, 37, 38, 39] (by decide +kernel) (by decide +kernel)
set_option maxRecDepth 20000 in
theorem gX1_widen_X1_isVoid : GoodIn wsX1_widen (wsV RX1 89 RX1 yX1_isVoid wsX1_isVoid) := goodIn_app (goodIn_of _ (by decide +kernel)) ggX1_widen_X1_isVoid
set_option maxRecDepth 20000 in
theorem ggX1_widen_X1_touches : GoodIn wsX1_widen wsX1_touches := goodIn_r _ [14, 15, 16, 17, 18, 4, 19, 6, 20, 21, 22, 23, 24, 32, 33, 34, 35, 36, 37, 38, 39] (by decide +kernel) (by decide +kernel)
set_option maxRecDepth 20000 in
theorem gX1_widen_X1_touches : GoodIn wsX1_widen (wsV RX1 92 RX1 yX1_touches wsX1_touches) := goodIn_app (goodIn_of _ (by decide +kernel)) ggX1_widen_X1_touches
set_option maxRecDepth 20000 in
theorem ggX1_widen_X1_widened : GoodIn wsX1_widen wsX1_widened := goodIn_r _ [28, 6, 29, 30, 4, 31, 11, 12, 13, 14, 15, 16, 17, 18, 19, 20, 21, 22, 23, 24, 32, 33, 34, 35, 36, 37, 38, 39] (by decide +kernel) (by decide +kernel)
set_option maxRecDepth 20000 in
theorem gX1_widen_X1_widened : GoodIn wsX1_widen (wsV RX1 98 RX1 yX1_widened wsX1_widened) := goodIn_app (goodIn_of _ (by decide +kernel)) ggX1_widen_X1_widened
theorem dX1_widen_0 : decode cX1_widen 0 = .ok (.aload_n 0, 1) := by decide +kernel
theorem dX1_widen_1 : decode cX1_widen 1 = .ok (.iload_n 1, 1) := by decide +kernel
theorem dX1_widen_2 : decode cX1_widen 2 = .ok (.invokevirtual 43, 3) := by decide +kernel
theorem dX1_widen_5 : decode cX1_widen 5 = .ok (.ifCond .eq 19, 3) := by decide +kernel
theorem dX1_widen_8 : decode cX1_widen 8 = .ok (.aload_n 0, 1) := by decide +kernel
theorem dX1_widen_9 : decode cX1_widen 9 = .ok (.iload_n 1, 1) := by decide +kernel
theorem dX1_widen_10 : decode cX1_widen 10 = .ok (.invokevirtual 89, 3) := by decide +kernel
theorem dX1_widen_13 : decode cX1_widen 13 = .ok (.ifCond .ne 11, 3) := by decide +kernel
theorem dX1_widen_16 : decode cX1_widen 16 = .ok (.aload_n 0, 1) := by decide +kernel
theorem dX1_widen_17 : decode cX1_widen 17 = .ok (.iload_n 1, 1) := by decide +kernel
theorem dX1_widen_18 : decode cX1_widen 18 = .ok (.invokevirtual 92, 3) := by decide +kernel
theorem dX1_widen_21 : decode cX1_widen 21 = .ok (.ifCond .eq 5, 3) := by decide +kernel
theorem dX1_widen_24 : decode cX1_widen 24 = .ok (.iconst (-1), 1) := by decide +kernel
theorem dX1_widen_25 : decode cX1_widen 25 = .ok (.ireturn, 1) := by decide +kernel
theorem dX1_widen_26 : decode cX1_widen 26 = .ok (.aload_n 0, 1) := by decide +kernel
theorem dX1_widen_27 : decode cX1_widen 27 = .ok (.iload_n 1, 1) := by decide +kernel
theorem dX1_widen_28 : decode cX1_widen 28 = .ok (.iconst 1, 1) := by decide +kernel
theorem dX1_widen_29 : decode cX1_widen 29 = .ok (.invokevirtual 98, 3) := by decide +kernel
theorem dX1_widen_32 : decode cX1_widen 32 = .ok (.ireturn, 1) := by decide +kernel
set_option maxRecDepth 20000 in
theorem ggX1_minimize_X1_fillCover : GoodIn wsX1_minimize wsX1_fillCover := goodIn_r _ [7, 1, 8, 9, 10, 11, 12, 13, 14, 15, 16, 17, 18, 19, 20, 21, 22, 23, 24, 25, 26, 6, 27, 28, 29, 30, 31, 32, 102, 103, 104, 105, 106, 107, 108, 109, 110, 111] (by decide +kernel) (by decide +kernel)
set_option maxRecDepth 20000 in
theorem gX1_minimize_X1_fillCover : GoodIn wsX1_minimize (wsV RX1 102 RX1 yX1_fillCover wsX1_fillCover) := goodIn_app (goodIn_of _ (by decide +kernel)) ggX1_minimize_X1_fillCover
set_option maxRecDepth 20000 in
theorem ggX1_minimize_X1_makePass : GoodIn wsX1_minimize wsX1_makePass := goodIn_r _ [36, 15, 16, 17, 12, 18, 14, 19, 20, 21, 22, 23, 37, 38, 39, 6, 40, 28, 41, 42, 43, 44, 45, 46, 47, 48, 49, 50, 51, 52, 53, 54, 55, 56, 57, 58, 59, 60, 61, 62, 63, 64, 65, 66, 67, 68, 69, 70, 71, 72, 73, 74, 75, 76, 77, 78, 79, 80, 81, 82, 110, 111, 102, 103, 104, 105, 106, 107, 108, 109] (by decide +kernel) (by decide +kernel)
set_option maxRecDepth 20000 in
theorem gX1_minimize_X1_makePass : GoodIn wsX1_minimize (wsV RX1 105 RX1 yX1_makePass wsX1_makePass) := goodIn_app (goodIn_of _ (by decide +kernel)) ggX1_minimize_X1_makePass
set_option maxRecDepth 20000 in
theorem ggX1_minimize_X0_copyFrom : GoodIn wsX1_minimize wsX0_copyFrom := goodIn_r _ [86, 14, 87, 16, 17, 12, 18, 88, 20, 21, 22, 23, 89, 30, 31, 32, 110, 111] (by decide +kernel) (by decide +kernel)
set_option maxRecDepth 20000 in
theorem gX1_minimize_X0_copyFrom : GoodIn wsX1_minimize (wsV RX1 109 RX0 yX0_copyFrom wsX0_copyFrom) := goodIn_app (goodIn_of _ (by decide +kernel)) ggX1_minimize_X0_copyFrom
set_option maxRecDepth 20000 in
theorem ggX1_minimize_X1_narrow : GoodIn wsX1_minimize wsX1_narrow := goodIn_r _ [93, 66, 67, 68, 6, 69, 70, 15, 16, 17, 12, 18, 14, 19, 20, 21, 22, 23, 71, 72, 73, 74, 49, 50, 51, 52, 28, 53, 54, 55, 56, 57, 75, 76, 77, 78, 48, 58, 59, 60, 61, 102, 103, 104, 105, 106, 107, 108, 109, 110, 111] (by decide +kernel) (by decide +kernel)
set_option maxRecDepth 20000 in
theorem gX1_minimize_X1_narrow : GoodIn wsX1_minimize (wsV RX1 113 RX1 yX1_narrow wsX1_narrow) := goodIn_app (goodIn_of _ (by decide +kernel)) ggX1_minimize_X1_narrow
set_option maxRecDepth 20000 in
theorem ggX1_minimize_X1_isSmaller : GoodIn wsX1_minimize wsX1_isSmaller := goodIn_r _ [97, 15, 16, 17, 12, 18, 14, 98, 99, 100, 6, 101, 28, 19, 20, 21, 22, 23, 41, 42, 43, 110, 111, 102, 103, 104, 105, 106, 107, 108, 109] (by decide +kernel) (by decide +kernel)
set_option maxRecDepth 20000 in
theorem gX1_minimize_X1_isSmaller : GoodIn wsX1_minimize (wsV RX1 116 RX1 yX1_isSmaller wsX1_isSmaller) := goodIn_app (goodIn_of _ (by decide +kernel)) ggX1_minimize_X1_isSmaller
set_option maxRecDepth 20000 in
theorem ggX1_minimize_X0_length : GoodIn wsX1_minimize wsX0_length := goodIn_r _ [18, 14, 110, 111] (by decide +kernel) (by decide +kernel)
set_option maxRecDepth 20000 in
theorem gX1_minimize_X0_length : GoodIn wsX1_minimize (wsV RX1 63 RX0 yX0_length wsX0_length) := goodIn_app (goodIn_of _ (by decide +kernel)) ggX1_minimize_X0_length
theorem dX1_minimize_0 : decode cX1_minimize 0 = .ok (.aload_n 0, 1) := by decide +kernel
theorem dX1_minimize_1 : decode cX1_minimize 1 = .ok (.invokevirtual 102, 3) := by decide +kernel
theorem dX1_minimize_4 : decode cX1_minimize 4 = .ok (.aload_n 0, 1) := by decide +kernel
theorem dX1_minimize_5 : decode cX1_minimize 5 = .ok (.aload_n 0, 1) := by decide +kernel
theorem dX1_minimize_6 : decode cX1_minimize 6 = .ok (.getfield 19, 3) := by decide +kernel
theorem dX1_minimize_9 : decode cX1_minimize 9 = .ok (.iconst 1, 1) := by decide +kernel
theorem dX1_minimize_10 : decode cX1_minimize 10 = .ok (.invokevirtual 105, 3) := by decide +kernel
theorem dX1_minimize_13 : decode cX1_minimize 13 = .ok (.iconst 1, 1) := by decide +kernel
theorem dX1_minimize_14 : decode cX1_minimize 14 = .ok (.istore_n 1, 1) := by decide +kernel
theorem dX1_minimize_15 : decode cX1_minimize 15 = .ok (.iconst 1, 1) := by decide +kernel
theorem dX1_minimize_16 : decode cX1_minimize 16 = .ok (.istore_n 2, 1) := by decide +kernel
theorem dX1_minimize_17 : decode cX1_minimize 17 = .ok (.iload_n 2, 1) := by decide +kernel
theorem dX1_minimize_18 : decode cX1_minimize 18 = .ok (.bipush 8, 2) := by decide +kernel
theorem dX1_minimize_20 : decode cX1_minimize 20 = .ok (.if_icmp .gt 79, 3) := by decide +kernel
theorem dX1_minimize_23 : decode cX1_minimize 23 = .ok (.iload_n 1, 1) := by decide +kernel
theorem dX1_minimize_24 : decode cX1_minimize 24 = .ok (.ifCond .eq 75, 3) := by decide +kernel
theorem dX1_minimize_27 : decode cX1_minimize 27 = .ok (.aload_n 0, 1) := by decide +kernel
theorem dX1_minimize_28 : decode cX1_minimize 28 = .ok (.getfield 22, 3) := by decide +kernel
theorem dX1_minimize_31 : decode cX1_minimize 31 = .ok (.aload_n 0, 1) := by decide +kernel
theorem dX1_minimize_32 : decode cX1_minimize 32 = .ok (.getfield 19, 3) := by decide +kernel
theorem dX1_minimize_35 : decode cX1_minimize 35 = .ok (.invokevirtual 109, 3) := by decide +kernel
theorem dX1_minimize_38 : decode cX1_minimize 38 = .ok (.aload_n 0, 1) := by decide +kernel
theorem dX1_minimize_39 : decode cX1_minimize 39 = .ok (.aload_n 0, 1) := by decide +kernel
theorem dX1_minimize_40 : decode cX1_minimize 40 = .ok (.getfield 22, 3) := by decide +kernel
theorem dX1_minimize_43 : decode cX1_minimize 43 = .ok (.invokevirtual 113, 3) := by decide +kernel
theorem dX1_minimize_46 : decode cX1_minimize 46 = .ok (.aload_n 0, 1) := by decide +kernel
theorem dX1_minimize_47 : decode cX1_minimize 47 = .ok (.aload_n 0, 1) := by decide +kernel
theorem dX1_minimize_48 : decode cX1_minimize 48 = .ok (.getfield 22, 3) := by decide +kernel
theorem dX1_minimize_51 : decode cX1_minimize 51 = .ok (.iload_n 2, 1) := by decide +kernel
theorem dX1_minimize_52 : decode cX1_minimize 52 = .ok (.iconst 2, 1) := by decide +kernel
theorem dX1_minimize_53 : decode cX1_minimize 53 = .ok (.irem, 1) := by decide +kernel
theorem dX1_minimize_54 : decode cX1_minimize 54 = .ok (.ifCond .ne 7, 3) := by decide +kernel
theorem dX1_minimize_57 : decode cX1_minimize 57 = .ok (.iconst 1, 1) := by decide +kernel
theorem dX1_minimize_58 : decode cX1_minimize 58 = .ok (.goto 4, 3) := by decide +kernel
theorem dX1_minimize_61 : decode cX1_minimize 61 = .ok (.iconst 0, 1) := by decide +kernel
theorem dX1_minimize_62 : decode cX1_minimize 62 = .ok (.invokevirtual 105, 3) := by decide +kernel
theorem dX1_minimize_65 : decode cX1_minimize 65 = .ok (.aload_n 0, 1) := by decide +kernel
theorem dX1_minimize_66 : decode cX1_minimize 66 = .ok (.aload_n 0, 1) := by decide +kernel
theorem dX1_minimize_67 : decode cX1_minimize 67 = .ok (.getfield 22, 3) := by decide +kernel
theorem dX1_minimize_70 : decode cX1_minimize 70 = .ok (.aload_n 0, 1) := by decide +kernel
theorem dX1_minimize_71 : decode cX1_minimize 71 = .ok (.getfield 19, 3) := by decide +kernel
theorem dX1_minimize_74 : decode cX1_minimize 74 = .ok (.invokevirtual 116, 3) := by decide +kernel
theorem dX1_minimize_77 : decode cX1_minimize 77 = .ok (.istore_n 1, 1) := by decide +kernel
theorem dX1_minimize_78 : decode cX1_minimize 78 = .ok (.iload_n 1, 1) := by decide +kernel
theorem dX1_minimize_79 : decode cX1_minimize 79 = .ok (.ifCond .eq 14, 3) := by decide +kernel
theorem dX1_minimize_82 : decode cX1_minimize 82 = .ok (.aload_n 0, 1) := by decide +kernel
theorem dX1_minimize_83 : decode cX1_minimize 83 = .ok (.getfield 19, 3) := by decide +kernel
theorem dX1_minimize_86 : decode cX1_minimize 86 = .ok (.aload_n 0, 1) := by decide +kernel
theorem dX1_minimize_87 : decode cX1_minimize 87 = .ok (.getfield 22, 3) := by decide +kernel
theorem dX1_minimize_90 : decode cX1_minimize 90 = .ok (.invokevirtual 109, 3) := by decide +kernel
theorem dX1_minimize_93 : decode cX1_minimize 93 = .ok (.iinc 2 1, 3) := by decide +kernel
theorem dX1_minimize_96 : decode cX1_minimize 96 = .ok (.goto (-79), 3) := by decide +kernel
theorem dX1_minimize_99 : decode cX1_minimize 99 = .ok (.aload_n 0, 1) := by decide +kernel
theorem dX1_minimize_100 : decode cX1_minimize 100 = .ok (.getfield 19, 3) := by decide +kernel
theorem dX1_minimize_103 : decode cX1_minimize 103 = .ok (.invokevirtual 63, 3) := by decide +kernel
theorem dX1_minimize_106 : decode cX1_minimize 106 = .ok (.ireturn, 1) := by decide +kernel
set_option maxRecDepth 20000 in
theorem ggX1_begin_X0_clear : GoodIn wsX1_begin wsX0_clear := goodIn_r _ [10, 11, 26, 27] (by decide +kernel) (by decide +kernel)
set_option maxRecDepth 20000 in
theorem gX1_begin_X0_clear : GoodIn wsX1_begin (wsV RX1 53 RX0 yX0_clear wsX0_clear) := goodIn_app (goodIn_of _ (by decide +kernel)) ggX1_begin_X0_clear
set_option maxRecDepth 20000 in
theorem ggX1_begin_X1_fillPointCubes : GoodIn wsX1_begin wsX1_fillPointCubes := goodIn_r _ [16, 17, 1, 18, 19, 20, 21, 22, 23, 24, 25] (by decide +kernel) (by decide +kernel)
set_option maxRecDepth 20000 in
theorem gX1_begin_X1_fillPointCubes : GoodIn wsX1_begin (wsV RX1 119 RX1 yX1_fillPointCubes wsX1_fillPointCubes) := goodIn_app (goodIn_of _ (by decide +kernel)) ggX1_begin_X1_fillPointCubes
theorem dX1_begin_0 : decode cX1_begin 0 = .ok (.aload_n 0, 1) := by decide +kernel
theorem dX1_begin_1 : decode cX1_begin 1 = .ok (.iload_n 1, 1) := by decide +kernel
theorem dX1_begin_2 : decode cX1_begin 2 = .ok (.putfield 39, 3) := by decide +kernel
theorem dX1_begin_5 : decode cX1_begin 5 = .ok (.aload_n 0, 1) := by decide +kernel
theorem dX1_begin_6 : decode cX1_begin 6 = .ok (.getfield 12, 3) := by decide +kernel
theorem dX1_begin_9 : decode cX1_begin 9 = .ok (.invokevirtual 53, 3) := by decide +kernel
theorem dX1_begin_12 : decode cX1_begin 12 = .ok (.aload_n 0, 1) := by decide +kernel
