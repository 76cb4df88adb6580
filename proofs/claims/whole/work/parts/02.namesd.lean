theorem dX1_countHolders_42 : decode cX1_countHolders 42 = .ok (.iinc 2 1, 3) := by decide +kernel
theorem dX1_countHolders_45 : decode cX1_countHolders 45 = .ok (.goto (-21), 3) := by decide +kernel
theorem dX1_countHolders_48 : decode cX1_countHolders 48 = .ok (.return_, 1) := by decide +kernel
set_option maxRecDepth 20000 in
theorem ggX1_addToHolders_X1_pointCount : GoodIn wsX1_addToHolders wsX1_pointCount := goodIn_r _ [6, 7, 13, 14, 15, 16, 17, 18, 19, 20] (by decide +kernel) (by decide +kernel)
set_option maxRecDepth 20000 in
theorem gX1_addToHolders_X1_pointCount : GoodIn wsX1_addToHolders (wsV RX1 122 RX1 yX1_pointCount wsX1_pointCount) := goodIn_app (goodIn_of _ (by decide +kernel)) ggX1_addToHolders_X1_pointCount
set_option maxRecDepth 20000 in
theorem ggX1_addToHolders_X1_isInCube : GoodIn wsX1_addToHolders wsX1_isInCube := goodIn_r _ [11, 12, 13, 14, 15, 16, 17, 18, 19, 20] (by decide +kernel) (by decide +kernel)
set_option maxRecDepth 20000 in
theorem gX1_addToHolders_X1_isInCube : GoodIn wsX1_addToHolders (wsV RX1 125 RX1 yX1_isInCube wsX1_isInCube) := goodIn_app (goodIn_of _ (by decide +kernel)) ggX1_addToHolders_X1_isInCube
theorem dX1_addToHolders_0 : decode cX1_addToHolders 0 = .ok (.aload_n 0, 1) := by decide +kernel
theorem dX1_addToHolders_1 : decode cX1_addToHolders 1 = .ok (.invokevirtual 122, 3) := by decide +kernel
theorem dX1_addToHolders_4 : decode cX1_addToHolders 4 = .ok (.istore_n 3, 1) := by decide +kernel
theorem dX1_addToHolders_5 : decode cX1_addToHolders 5 = .ok (.iconst 0, 1) := by decide +kernel
theorem dX1_addToHolders_6 : decode cX1_addToHolders 6 = .ok (.istore 4, 2) := by decide +kernel
theorem dX1_addToHolders_8 : decode cX1_addToHolders 8 = .ok (.iload 4, 2) := by decide +kernel
theorem dX1_addToHolders_10 : decode cX1_addToHolders 10 = .ok (.iload_n 3, 1) := by decide +kernel
theorem dX1_addToHolders_11 : decode cX1_addToHolders 11 = .ok (.if_icmp .ge 30, 3) := by decide +kernel
theorem dX1_addToHolders_14 : decode cX1_addToHolders 14 = .ok (.aload_n 0, 1) := by decide +kernel
theorem dX1_addToHolders_15 : decode cX1_addToHolders 15 = .ok (.iload_n 1, 1) := by decide +kernel
theorem dX1_addToHolders_16 : decode cX1_addToHolders 16 = .ok (.iload 4, 2) := by decide +kernel
theorem dX1_addToHolders_18 : decode cX1_addToHolders 18 = .ok (.invokevirtual 125, 3) := by decide +kernel
theorem dX1_addToHolders_21 : decode cX1_addToHolders 21 = .ok (.ifCond .eq 14, 3) := by decide +kernel
theorem dX1_addToHolders_24 : decode cX1_addToHolders 24 = .ok (.aload_n 0, 1) := by decide +kernel
theorem dX1_addToHolders_25 : decode cX1_addToHolders 25 = .ok (.getfield 32, 3) := by decide +kernel
theorem dX1_addToHolders_28 : decode cX1_addToHolders 28 = .ok (.iload 4, 2) := by decide +kernel
theorem dX1_addToHolders_30 : decode cX1_addToHolders 30 = .ok (.dup2, 1) := by decide +kernel
theorem dX1_addToHolders_31 : decode cX1_addToHolders 31 = .ok (.iaload, 1) := by decide +kernel
theorem dX1_addToHolders_32 : decode cX1_addToHolders 32 = .ok (.iload_n 2, 1) := by decide +kernel
theorem dX1_addToHolders_33 : decode cX1_addToHolders 33 = .ok (.iadd, 1) := by decide +kernel
theorem dX1_addToHolders_34 : decode cX1_addToHolders 34 = .ok (.iastore, 1) := by decide +kernel
theorem dX1_addToHolders_35 : decode cX1_addToHolders 35 = .ok (.iinc 4 1, 3) := by decide +kernel
theorem dX1_addToHolders_38 : decode cX1_addToHolders 38 = .ok (.goto (-30), 3) := by decide +kernel
theorem dX1_addToHolders_41 : decode cX1_addToHolders 41 = .ok (.return_, 1) := by decide +kernel
set_option maxRecDepth 20000 in
theorem ggX1_ownPart_X1_pointCount : GoodIn wsX1_ownPart wsX1_pointCount := goodIn_r _ [8, 9, 14, 15, 16, 17, 18, 19, 20, 21] (by decide +kernel) (by decide +kernel)
set_option maxRecDepth 20000 in
theorem gX1_ownPart_X1_pointCount : GoodIn wsX1_ownPart (wsV RX1 122 RX1 yX1_pointCount wsX1_pointCount) := goodIn_app (goodIn_of _ (by decide +kernel)) ggX1_ownPart_X1_pointCount
set_option maxRecDepth 20000 in
theorem ggX1_ownPart_X1_isInCube : GoodIn wsX1_ownPart wsX1_isInCube := goodIn_r _ [13, 3, 14, 15, 16, 17, 18, 19, 20, 21] (by decide +kernel) (by decide +kernel)
set_option maxRecDepth 20000 in
theorem gX1_ownPart_X1_isInCube : GoodIn wsX1_ownPart (wsV RX1 125 RX1 yX1_isInCube wsX1_isInCube) := goodIn_app (goodIn_of _ (by decide +kernel)) ggX1_ownPart_X1_isInCube
theorem dX1_ownPart_0 : decode cX1_ownPart 0 = .ok (.aload_n 0, 1) := by decide +kernel
theorem dX1_ownPart_1 : decode cX1_ownPart 1 = .ok (.invokevirtual 122, 3) := by decide +kernel
theorem dX1_ownPart_4 : decode cX1_ownPart 4 = .ok (.istore_n 2, 1) := by decide +kernel
theorem dX1_ownPart_5 : decode cX1_ownPart 5 = .ok (.iconst 0, 1) := by decide +kernel
theorem dX1_ownPart_6 : decode cX1_ownPart 6 = .ok (.istore_n 3, 1) := by decide +kernel
theorem dX1_ownPart_7 : decode cX1_ownPart 7 = .ok (.iconst 0, 1) := by decide +kernel
theorem dX1_ownPart_8 : decode cX1_ownPart 8 = .ok (.istore 4, 2) := by decide +kernel
theorem dX1_ownPart_10 : decode cX1_ownPart 10 = .ok (.iload 4, 2) := by decide +kernel
theorem dX1_ownPart_12 : decode cX1_ownPart 12 = .ok (.iload_n 2, 1) := by decide +kernel
theorem dX1_ownPart_13 : decode cX1_ownPart 13 = .ok (.if_icmp .ge 51, 3) := by decide +kernel
theorem dX1_ownPart_16 : decode cX1_ownPart 16 = .ok (.aload_n 0, 1) := by decide +kernel
theorem dX1_ownPart_17 : decode cX1_ownPart 17 = .ok (.getfield 29, 3) := by decide +kernel
theorem dX1_ownPart_20 : decode cX1_ownPart 20 = .ok (.iload 4, 2) := by decide +kernel
theorem dX1_ownPart_22 : decode cX1_ownPart 22 = .ok (.iaload, 1) := by decide +kernel
theorem dX1_ownPart_23 : decode cX1_ownPart 23 = .ok (.iconst 1, 1) := by decide +kernel
theorem dX1_ownPart_24 : decode cX1_ownPart 24 = .ok (.if_icmp .ne 34, 3) := by decide +kernel
theorem dX1_ownPart_27 : decode cX1_ownPart 27 = .ok (.aload_n 0, 1) := by decide +kernel
theorem dX1_ownPart_28 : decode cX1_ownPart 28 = .ok (.getfield 32, 3) := by decide +kernel
theorem dX1_ownPart_31 : decode cX1_ownPart 31 = .ok (.iload 4, 2) := by decide +kernel
theorem dX1_ownPart_33 : decode cX1_ownPart 33 = .ok (.iaload, 1) := by decide +kernel
theorem dX1_ownPart_34 : decode cX1_ownPart 34 = .ok (.iconst 1, 1) := by decide +kernel
theorem dX1_ownPart_35 : decode cX1_ownPart 35 = .ok (.if_icmp .ne 23, 3) := by decide +kernel
theorem dX1_ownPart_38 : decode cX1_ownPart 38 = .ok (.aload_n 0, 1) := by decide +kernel
theorem dX1_ownPart_39 : decode cX1_ownPart 39 = .ok (.iload_n 1, 1) := by decide +kernel
theorem dX1_ownPart_40 : decode cX1_ownPart 40 = .ok (.iload 4, 2) := by decide +kernel
theorem dX1_ownPart_42 : decode cX1_ownPart 42 = .ok (.invokevirtual 125, 3) := by decide +kernel
theorem dX1_ownPart_45 : decode cX1_ownPart 45 = .ok (.ifCond .eq 13, 3) := by decide +kernel
theorem dX1_ownPart_48 : decode cX1_ownPart 48 = .ok (.iload_n 3, 1) := by decide +kernel
theorem dX1_ownPart_49 : decode cX1_ownPart 49 = .ok (.aload_n 0, 1) := by decide +kernel
theorem dX1_ownPart_50 : decode cX1_ownPart 50 = .ok (.getfield 25, 3) := by decide +kernel
theorem dX1_ownPart_53 : decode cX1_ownPart 53 = .ok (.iload 4, 2) := by decide +kernel
theorem dX1_ownPart_55 : decode cX1_ownPart 55 = .ok (.iaload, 1) := by decide +kernel
theorem dX1_ownPart_56 : decode cX1_ownPart 56 = .ok (.ior, 1) := by decide +kernel
theorem dX1_ownPart_57 : decode cX1_ownPart 57 = .ok (.istore_n 3, 1) := by decide +kernel
theorem dX1_ownPart_58 : decode cX1_ownPart 58 = .ok (.iinc 4 1, 3) := by decide +kernel
theorem dX1_ownPart_61 : decode cX1_ownPart 61 = .ok (.goto (-51), 3) := by decide +kernel
theorem dX1_ownPart_64 : decode cX1_ownPart 64 = .ok (.iload_n 3, 1) := by decide +kernel
theorem dX1_ownPart_65 : decode cX1_ownPart 65 = .ok (.ireturn, 1) := by decide +kernel
set_option maxRecDepth 20000 in
theorem ggX1_isSmaller_X0_length : GoodIn wsX1_isSmaller wsX0_length := goodIn_r _ [5, 6, 21, 22] (by decide +kernel) (by decide +kernel)
set_option maxRecDepth 20000 in
theorem gX1_isSmaller_X0_length : GoodIn wsX1_isSmaller (wsV RX1 63 RX0 yX0_length wsX0_length) := goodIn_app (goodIn_of _ (by decide +kernel)) ggX1_isSmaller_X0_length
set_option maxRecDepth 20000 in
theorem ggX1_isSmaller_X1_countLiterals : GoodIn wsX1_isSmaller wsX1_countLiterals := goodIn_r _ [11, 12, 1, 2, 3, 4, 5, 6, 13, 14, 15, 16, 17, 18, 19, 10, 20, 23, 24, 25, 26, 27, 28, 29, 30, 21, 22] (by decide +kernel) (by decide +kernel)
set_option maxRecDepth 20000 in
theorem gX1_isSmaller_X1_countLiterals : GoodIn wsX1_isSmaller (wsV RX1 71 RX1 yX1_countLiterals wsX1_countLiterals) := goodIn_app (goodIn_of _ (by decide +kernel)) ggX1_isSmaller_X1_countLiterals
theorem dX1_isSmaller_0 : decode cX1_isSmaller 0 = .ok (.aload_n 1, 1) := by decide +kernel
theorem dX1_isSmaller_1 : decode cX1_isSmaller 1 = .ok (.invokevirtual 63, 3) := by decide +kernel
theorem dX1_isSmaller_4 : decode cX1_isSmaller 4 = .ok (.aload_n 2, 1) := by decide +kernel
theorem dX1_isSmaller_5 : decode cX1_isSmaller 5 = .ok (.invokevirtual 63, 3) := by decide +kernel
theorem dX1_isSmaller_8 : decode cX1_isSmaller 8 = .ok (.if_icmp .eq 20, 3) := by decide +kernel
theorem dX1_isSmaller_11 : decode cX1_isSmaller 11 = .ok (.aload_n 1, 1) := by decide +kernel
theorem dX1_isSmaller_12 : decode cX1_isSmaller 12 = .ok (.invokevirtual 63, 3) := by decide +kernel
theorem dX1_isSmaller_15 : decode cX1_isSmaller 15 = .ok (.aload_n 2, 1) := by decide +kernel
theorem dX1_isSmaller_16 : decode cX1_isSmaller 16 = .ok (.invokevirtual 63, 3) := by decide +kernel
theorem dX1_isSmaller_19 : decode cX1_isSmaller 19 = .ok (.if_icmp .ge 7, 3) := by decide +kernel
theorem dX1_isSmaller_22 : decode cX1_isSmaller 22 = .ok (.iconst 1, 1) := by decide +kernel
theorem dX1_isSmaller_23 : decode cX1_isSmaller 23 = .ok (.goto 4, 3) := by decide +kernel
theorem dX1_isSmaller_26 : decode cX1_isSmaller 26 = .ok (.iconst 0, 1) := by decide +kernel
theorem dX1_isSmaller_27 : decode cX1_isSmaller 27 = .ok (.ireturn, 1) := by decide +kernel
theorem dX1_isSmaller_28 : decode cX1_isSmaller 28 = .ok (.aload_n 0, 1) := by decide +kernel
theorem dX1_isSmaller_29 : decode cX1_isSmaller 29 = .ok (.aload_n 1, 1) := by decide +kernel
theorem dX1_isSmaller_30 : decode cX1_isSmaller 30 = .ok (.invokevirtual 71, 3) := by decide +kernel
theorem dX1_isSmaller_33 : decode cX1_isSmaller 33 = .ok (.aload_n 0, 1) := by decide +kernel
theorem dX1_isSmaller_34 : decode cX1_isSmaller 34 = .ok (.aload_n 2, 1) := by decide +kernel
theorem dX1_isSmaller_35 : decode cX1_isSmaller 35 = .ok (.invokevirtual 71, 3) := by decide +kernel
theorem dX1_isSmaller_38 : decode cX1_isSmaller 38 = .ok (.if_icmp .ge 7, 3) := by decide +kernel
theorem dX1_isSmaller_41 : decode cX1_isSmaller 41 = .ok (.iconst 1, 1) := by decide +kernel
theorem dX1_isSmaller_42 : decode cX1_isSmaller 42 = .ok (.goto 4, 3) := by decide +kernel
theorem dX1_isSmaller_45 : decode cX1_isSmaller 45 = .ok (.iconst 0, 1) := by decide +kernel
theorem dX1_isSmaller_46 : decode cX1_isSmaller 46 = .ok (.ireturn, 1) := by decide +kernel
theorem dX2_init_0 : decode cX2_init 0 = .ok (.aload_n 0, 1) := by decide +kernel
theorem dX2_init_1 : decode cX2_init 1 = .ok (.invokespecial 1, 3) := by decide +kernel
theorem dX2_init_4 : decode cX2_init 4 = .ok (.aload_n 0, 1) := by decide +kernel
theorem dX2_init_5 : decode cX2_init 5 = .ok (.bipush 96, 2) := by decide +kernel
theorem dX2_init_7 : decode cX2_init 7 = .ok (.newarray .int, 2) := by decide +kernel
theorem dX2_init_9 : decode cX2_init 9 = .ok (.putfield 7, 3) := by decide +kernel
theorem dX2_init_12 : decode cX2_init 12 = .ok (.aload_n 0, 1) := by decide +kernel
theorem dX2_init_13 : decode cX2_init 13 = .ok (.iconst 4, 1) := by decide +kernel
theorem dX2_init_14 : decode cX2_init 14 = .ok (.newarray .int, 2) := by decide +kernel
theorem dX2_init_16 : decode cX2_init 16 = .ok (.putfield 13, 3) := by decide +kernel
theorem dX2_init_19 : decode cX2_init 19 = .ok (.aload_n 0, 1) := by decide +kernel
theorem dX2_init_20 : decode cX2_init 20 = .ok (.sipush 256, 3) := by decide +kernel
theorem dX2_init_23 : decode cX2_init 23 = .ok (.newarray .int, 2) := by decide +kernel
theorem dX2_init_25 : decode cX2_init 25 = .ok (.putfield 16, 3) := by decide +kernel
theorem dX2_init_28 : decode cX2_init 28 = .ok (.aload_n 0, 1) := by decide +kernel
theorem dX2_init_29 : decode cX2_init 29 = .ok (.iconst 4, 1) := by decide +kernel
theorem dX2_init_30 : decode cX2_init 30 = .ok (.putfield 19, 3) := by decide +kernel
theorem dX2_init_33 : decode cX2_init 33 = .ok (.return_, 1) := by decide +kernel
set_option maxRecDepth 20000 in
theorem ggX2_start_X2_sort : GoodIn wsX2_start wsX2_sort := goodIn_r _ [7, 1, 8, 9, 10, 11, 6, 12, 2, 13, 14, 15, 16, 17, 18, 19, 20, 21] (by decide +kernel) (by decide +kernel)
set_option maxRecDepth 20000 in
theorem gX2_start_X2_sort : GoodIn wsX2_start (wsV RX2 23 RX2 yX2_sort wsX2_sort) := goodIn_app (goodIn_of _ (by decide +kernel)) ggX2_start_X2_sort
theorem dX2_start_0 : decode cX2_start 0 = .ok (.iload_n 1, 1) := by decide +kernel
theorem dX2_start_1 : decode cX2_start 1 = .ok (.iconst 1, 1) := by decide +kernel
theorem dX2_start_2 : decode cX2_start 2 = .ok (.if_icmp .lt 9, 3) := by decide +kernel
theorem dX2_start_5 : decode cX2_start 5 = .ok (.iload_n 1, 1) := by decide +kernel
theorem dX2_start_6 : decode cX2_start 6 = .ok (.bipush 8, 2) := by decide +kernel
theorem dX2_start_8 : decode cX2_start 8 = .ok (.if_icmp .le 5, 3) := by decide +kernel
theorem dX2_start_11 : decode cX2_start 11 = .ok (.iconst 0, 1) := by decide +kernel
theorem dX2_start_12 : decode cX2_start 12 = .ok (.ireturn, 1) := by decide +kernel
theorem dX2_start_13 : decode cX2_start 13 = .ok (.aload_n 0, 1) := by decide +kernel
theorem dX2_start_14 : decode cX2_start 14 = .ok (.iload_n 1, 1) := by decide +kernel
theorem dX2_start_15 : decode cX2_start 15 = .ok (.putfield 19, 3) := by decide +kernel
theorem dX2_start_18 : decode cX2_start 18 = .ok (.iconst 0, 1) := by decide +kernel
theorem dX2_start_19 : decode cX2_start 19 = .ok (.istore_n 2, 1) := by decide +kernel
theorem dX2_start_20 : decode cX2_start 20 = .ok (.iload_n 2, 1) := by decide +kernel
theorem dX2_start_21 : decode cX2_start 21 = .ok (.iconst 4, 1) := by decide +kernel
theorem dX2_start_22 : decode cX2_start 22 = .ok (.if_icmp .ge 16, 3) := by decide +kernel
theorem dX2_start_25 : decode cX2_start 25 = .ok (.aload_n 0, 1) := by decide +kernel
theorem dX2_start_26 : decode cX2_start 26 = .ok (.getfield 13, 3) := by decide +kernel
theorem dX2_start_29 : decode cX2_start 29 = .ok (.iload_n 2, 1) := by decide +kernel
theorem dX2_start_30 : decode cX2_start 30 = .ok (.iconst 0, 1) := by decide +kernel
theorem dX2_start_31 : decode cX2_start 31 = .ok (.iastore, 1) := by decide +kernel
theorem dX2_start_32 : decode cX2_start 32 = .ok (.iinc 2 1, 3) := by decide +kernel
theorem dX2_start_35 : decode cX2_start 35 = .ok (.goto (-15), 3) := by decide +kernel
theorem dX2_start_38 : decode cX2_start 38 = .ok (.aload_n 0, 1) := by decide +kernel
theorem dX2_start_39 : decode cX2_start 39 = .ok (.invokevirtual 23, 3) := by decide +kernel
theorem dX2_start_42 : decode cX2_start 42 = .ok (.iconst 1, 1) := by decide +kernel
theorem dX2_start_43 : decode cX2_start 43 = .ok (.ireturn, 1) := by decide +kernel
theorem dX2_inputs_0 : decode cX2_inputs 0 = .ok (.aload_n 0, 1) := by decide +kernel
theorem dX2_inputs_1 : decode cX2_inputs 1 = .ok (.getfield 19, 3) := by decide +kernel
theorem dX2_inputs_4 : decode cX2_inputs 4 = .ok (.ireturn, 1) := by decide +kernel
theorem dX2_isCube_0 : decode cX2_isCube 0 = .ok (.iload_n 1, 1) := by decide +kernel
theorem dX2_isCube_1 : decode cX2_isCube 1 = .ok (.ifCond .lt 19, 3) := by decide +kernel
theorem dX2_isCube_4 : decode cX2_isCube 4 = .ok (.iload_n 1, 1) := by decide +kernel
theorem dX2_isCube_5 : decode cX2_isCube 5 = .ok (.iconst 1, 1) := by decide +kernel
theorem dX2_isCube_6 : decode cX2_isCube 6 = .ok (.iconst 2, 1) := by decide +kernel
theorem dX2_isCube_7 : decode cX2_isCube 7 = .ok (.aload_n 0, 1) := by decide +kernel
theorem dX2_isCube_8 : decode cX2_isCube 8 = .ok (.getfield 19, 3) := by decide +kernel
theorem dX2_isCube_11 : decode cX2_isCube 11 = .ok (.imul, 1) := by decide +kernel
theorem dX2_isCube_12 : decode cX2_isCube 12 = .ok (.ishl, 1) := by decide +kernel
theorem dX2_isCube_13 : decode cX2_isCube 13 = .ok (.if_icmp .ge 7, 3) := by decide +kernel
theorem dX2_isCube_16 : decode cX2_isCube 16 = .ok (.iconst 1, 1) := by decide +kernel
theorem dX2_isCube_17 : decode cX2_isCube 17 = .ok (.goto 4, 3) := by decide +kernel
theorem dX2_isCube_20 : decode cX2_isCube 20 = .ok (.iconst 0, 1) := by decide +kernel
theorem dX2_isCube_21 : decode cX2_isCube 21 = .ok (.ireturn, 1) := by decide +kernel
theorem dX2_isVoid_0 : decode cX2_isVoid 0 = .ok (.iconst 0, 1) := by decide +kernel
theorem dX2_isVoid_1 : decode cX2_isVoid 1 = .ok (.istore_n 2, 1) := by decide +kernel
theorem dX2_isVoid_2 : decode cX2_isVoid 2 = .ok (.iload_n 2, 1) := by decide +kernel
theorem dX2_isVoid_3 : decode cX2_isVoid 3 = .ok (.aload_n 0, 1) := by decide +kernel
theorem dX2_isVoid_4 : decode cX2_isVoid 4 = .ok (.getfield 19, 3) := by decide +kernel
theorem dX2_isVoid_7 : decode cX2_isVoid 7 = .ok (.if_icmp .ge 21, 3) := by decide +kernel
theorem dX2_isVoid_10 : decode cX2_isVoid 10 = .ok (.iload_n 1, 1) := by decide +kernel
theorem dX2_isVoid_11 : decode cX2_isVoid 11 = .ok (.iconst 2, 1) := by decide +kernel
theorem dX2_isVoid_12 : decode cX2_isVoid 12 = .ok (.iload_n 2, 1) := by decide +kernel
theorem dX2_isVoid_13 : decode cX2_isVoid 13 = .ok (.imul, 1) := by decide +kernel
theorem dX2_isVoid_14 : decode cX2_isVoid 14 = .ok (.ishr, 1) := by decide +kernel
theorem dX2_isVoid_15 : decode cX2_isVoid 15 = .ok (.iconst 3, 1) := by decide +kernel
theorem dX2_isVoid_16 : decode cX2_isVoid 16 = .ok (.iand, 1) := by decide +kernel
theorem dX2_isVoid_17 : decode cX2_isVoid 17 = .ok (.ifCond .ne 5, 3) := by decide +kernel
theorem dX2_isVoid_20 : decode cX2_isVoid 20 = .ok (.iconst 1, 1) := by decide +kernel
theorem dX2_isVoid_21 : decode cX2_isVoid 21 = .ok (.ireturn, 1) := by decide +kernel
theorem dX2_isVoid_22 : decode cX2_isVoid 22 = .ok (.iinc 2 1, 3) := by decide +kernel
theorem dX2_isVoid_25 : decode cX2_isVoid 25 = .ok (.goto (-23), 3) := by decide +kernel
theorem dX2_isVoid_28 : decode cX2_isVoid 28 = .ok (.iconst 0, 1) := by decide +kernel
theorem dX2_isVoid_29 : decode cX2_isVoid 29 = .ok (.ireturn, 1) := by decide +kernel
theorem dX2_in_0 : decode cX2_in 0 = .ok (.iconst 0, 1) := by decide +kernel
theorem dX2_in_1 : decode cX2_in 1 = .ok (.istore_n 3, 1) := by decide +kernel
theorem dX2_in_2 : decode cX2_in 2 = .ok (.iload_n 3, 1) := by decide +kernel
theorem dX2_in_3 : decode cX2_in 3 = .ok (.aload_n 0, 1) := by decide +kernel
theorem dX2_in_4 : decode cX2_in 4 = .ok (.getfield 19, 3) := by decide +kernel
theorem dX2_in_7 : decode cX2_in 7 = .ok (.if_icmp .ge 27, 3) := by decide +kernel
theorem dX2_in_10 : decode cX2_in 10 = .ok (.iload_n 2, 1) := by decide +kernel
theorem dX2_in_11 : decode cX2_in 11 = .ok (.iconst 2, 1) := by decide +kernel
theorem dX2_in_12 : decode cX2_in 12 = .ok (.iload_n 3, 1) := by decide +kernel
theorem dX2_in_13 : decode cX2_in 13 = .ok (.imul, 1) := by decide +kernel
theorem dX2_in_14 : decode cX2_in 14 = .ok (.iload_n 1, 1) := by decide +kernel
theorem dX2_in_15 : decode cX2_in 15 = .ok (.iload_n 3, 1) := by decide +kernel
theorem dX2_in_16 : decode cX2_in 16 = .ok (.ishr, 1) := by decide +kernel
theorem dX2_in_17 : decode cX2_in 17 = .ok (.iconst 1, 1) := by decide +kernel
theorem dX2_in_18 : decode cX2_in 18 = .ok (.iand, 1) := by decide +kernel
theorem dX2_in_19 : decode cX2_in 19 = .ok (.iadd, 1) := by decide +kernel
theorem dX2_in_20 : decode cX2_in 20 = .ok (.ishr, 1) := by decide +kernel
theorem dX2_in_21 : decode cX2_in 21 = .ok (.iconst 1, 1) := by decide +kernel
theorem dX2_in_22 : decode cX2_in 22 = .ok (.iand, 1) := by decide +kernel
theorem dX2_in_23 : decode cX2_in 23 = .ok (.ifCond .ne 5, 3) := by decide +kernel
theorem dX2_in_26 : decode cX2_in 26 = .ok (.iconst 0, 1) := by decide +kernel
theorem dX2_in_27 : decode cX2_in 27 = .ok (.ireturn, 1) := by decide +kernel
theorem dX2_in_28 : decode cX2_in 28 = .ok (.iinc 3 1, 3) := by decide +kernel
theorem dX2_in_31 : decode cX2_in 31 = .ok (.goto (-29), 3) := by decide +kernel
theorem dX2_in_34 : decode cX2_in 34 = .ok (.iconst 1, 1) := by decide +kernel
theorem dX2_in_35 : decode cX2_in 35 = .ok (.ireturn, 1) := by decide +kernel
set_option maxRecDepth 20000 in
theorem ggX2_inList_X2_in : GoodIn wsX2_inList wsX2_in := goodIn_r _ [7, 8, 9, 10, 11, 12] (by decide +kernel) (by decide +kernel)
set_option maxRecDepth 20000 in
theorem gX2_inList_X2_in : GoodIn wsX2_inList (wsV RX2 26 RX2 yX2_in wsX2_in) := goodIn_app (goodIn_of _ (by decide +kernel)) ggX2_inList_X2_in
theorem dX2_inList_0 : decode cX2_inList 0 = .ok (.iconst 0, 1) := by decide +kernel
theorem dX2_inList_1 : decode cX2_inList 1 = .ok (.istore_n 3, 1) := by decide +kernel
theorem dX2_inList_2 : decode cX2_inList 2 = .ok (.iload_n 3, 1) := by decide +kernel
theorem dX2_inList_3 : decode cX2_inList 3 = .ok (.aload_n 0, 1) := by decide +kernel
theorem dX2_inList_4 : decode cX2_inList 4 = .ok (.getfield 13, 3) := by decide +kernel
theorem dX2_inList_7 : decode cX2_inList 7 = .ok (.iload_n 2, 1) := by decide +kernel
theorem dX2_inList_8 : decode cX2_inList 8 = .ok (.iaload, 1) := by decide +kernel
theorem dX2_inList_9 : decode cX2_inList 9 = .ok (.if_icmp .ge 30, 3) := by decide +kernel
theorem dX2_inList_12 : decode cX2_inList 12 = .ok (.aload_n 0, 1) := by decide +kernel
theorem dX2_inList_13 : decode cX2_inList 13 = .ok (.iload_n 1, 1) := by decide +kernel
theorem dX2_inList_14 : decode cX2_inList 14 = .ok (.aload_n 0, 1) := by decide +kernel
theorem dX2_inList_15 : decode cX2_inList 15 = .ok (.getfield 7, 3) := by decide +kernel
theorem dX2_inList_18 : decode cX2_inList 18 = .ok (.bipush 24, 2) := by decide +kernel
theorem dX2_inList_20 : decode cX2_inList 20 = .ok (.iload_n 2, 1) := by decide +kernel
theorem dX2_inList_21 : decode cX2_inList 21 = .ok (.imul, 1) := by decide +kernel
theorem dX2_inList_22 : decode cX2_inList 22 = .ok (.iload_n 3, 1) := by decide +kernel
theorem dX2_inList_23 : decode cX2_inList 23 = .ok (.iadd, 1) := by decide +kernel
theorem dX2_inList_24 : decode cX2_inList 24 = .ok (.iaload, 1) := by decide +kernel
theorem dX2_inList_25 : decode cX2_inList 25 = .ok (.invokevirtual 26, 3) := by decide +kernel
theorem dX2_inList_28 : decode cX2_inList 28 = .ok (.ifCond .eq 5, 3) := by decide +kernel
theorem dX2_inList_31 : decode cX2_inList 31 = .ok (.iconst 1, 1) := by decide +kernel
theorem dX2_inList_32 : decode cX2_inList 32 = .ok (.ireturn, 1) := by decide +kernel
theorem dX2_inList_33 : decode cX2_inList 33 = .ok (.iinc 3 1, 3) := by decide +kernel
theorem dX2_inList_36 : decode cX2_inList 36 = .ok (.goto (-34), 3) := by decide +kernel
theorem dX2_inList_39 : decode cX2_inList 39 = .ok (.iconst 0, 1) := by decide +kernel
theorem dX2_inList_40 : decode cX2_inList 40 = .ok (.ireturn, 1) := by decide +kernel
set_option maxRecDepth 20000 in
theorem ggX2_sort_X2_inList : GoodIn wsX2_sort wsX2_inList := goodIn_r _ [7, 8, 9, 10, 11, 12, 6, 13, 1, 14, 15, 16, 17] (by decide +kernel) (by decide +kernel)
set_option maxRecDepth 20000 in
theorem gX2_sort_X2_inList : GoodIn wsX2_sort (wsV RX2 30 RX2 yX2_inList wsX2_inList) := goodIn_app (goodIn_of _ (by decide +kernel)) ggX2_sort_X2_inList
theorem dX2_sort_0 : decode cX2_sort 0 = .ok (.iconst 0, 1) := by decide +kernel
theorem dX2_sort_1 : decode cX2_sort 1 = .ok (.istore_n 1, 1) := by decide +kernel
theorem dX2_sort_2 : decode cX2_sort 2 = .ok (.iload_n 1, 1) := by decide +kernel
theorem dX2_sort_3 : decode cX2_sort 3 = .ok (.iconst 1, 1) := by decide +kernel
theorem dX2_sort_4 : decode cX2_sort 4 = .ok (.aload_n 0, 1) := by decide +kernel
theorem dX2_sort_5 : decode cX2_sort 5 = .ok (.getfield 19, 3) := by decide +kernel
theorem dX2_sort_8 : decode cX2_sort 8 = .ok (.ishl, 1) := by decide +kernel
theorem dX2_sort_9 : decode cX2_sort 9 = .ok (.if_icmp .ge 42, 3) := by decide +kernel
theorem dX2_sort_12 : decode cX2_sort 12 = .ok (.aload_n 0, 1) := by decide +kernel
theorem dX2_sort_13 : decode cX2_sort 13 = .ok (.getfield 16, 3) := by decide +kernel
theorem dX2_sort_16 : decode cX2_sort 16 = .ok (.iload_n 1, 1) := by decide +kernel
theorem dX2_sort_17 : decode cX2_sort 17 = .ok (.aload_n 0, 1) := by decide +kernel
theorem dX2_sort_18 : decode cX2_sort 18 = .ok (.iload_n 1, 1) := by decide +kernel
theorem dX2_sort_19 : decode cX2_sort 19 = .ok (.iconst 1, 1) := by decide +kernel
theorem dX2_sort_20 : decode cX2_sort 20 = .ok (.invokevirtual 30, 3) := by decide +kernel
theorem dX2_sort_23 : decode cX2_sort 23 = .ok (.ifCond .eq 7, 3) := by decide +kernel
theorem dX2_sort_26 : decode cX2_sort 26 = .ok (.iconst 2, 1) := by decide +kernel
theorem dX2_sort_27 : decode cX2_sort 27 = .ok (.goto 17, 3) := by decide +kernel
theorem dX2_sort_30 : decode cX2_sort 30 = .ok (.aload_n 0, 1) := by decide +kernel
theorem dX2_sort_31 : decode cX2_sort 31 = .ok (.iload_n 1, 1) := by decide +kernel
theorem dX2_sort_32 : decode cX2_sort 32 = .ok (.iconst 0, 1) := by decide +kernel
theorem dX2_sort_33 : decode cX2_sort 33 = .ok (.invokevirtual 30, 3) := by decide +kernel
theorem dX2_sort_36 : decode cX2_sort 36 = .ok (.ifCond .eq 7, 3) := by decide +kernel
theorem dX2_sort_39 : decode cX2_sort 39 = .ok (.iconst 1, 1) := by decide +kernel
theorem dX2_sort_40 : decode cX2_sort 40 = .ok (.goto 4, 3) := by decide +kernel
theorem dX2_sort_43 : decode cX2_sort 43 = .ok (.iconst 0, 1) := by decide +kernel
theorem dX2_sort_44 : decode cX2_sort 44 = .ok (.iastore, 1) := by decide +kernel
theorem dX2_sort_45 : decode cX2_sort 45 = .ok (.iinc 1 1, 3) := by decide +kernel
theorem dX2_sort_48 : decode cX2_sort 48 = .ok (.goto (-46), 3) := by decide +kernel
theorem dX2_sort_51 : decode cX2_sort 51 = .ok (.return_, 1) := by decide +kernel
set_option maxRecDepth 20000 in
theorem ggX2_touches_X2_in : GoodIn wsX2_touches wsX2_in := goodIn_r _ [7, 1, 8, 9, 10, 11] (by decide +kernel) (by decide +kernel)
set_option maxRecDepth 20000 in
theorem gX2_touches_X2_in : GoodIn wsX2_touches (wsV RX2 26 RX2 yX2_in wsX2_in) := goodIn_app (goodIn_of _ (by decide +kernel)) ggX2_touches_X2_in
theorem dX2_touches_0 : decode cX2_touches 0 = .ok (.iconst 0, 1) := by decide +kernel
theorem dX2_touches_1 : decode cX2_touches 1 = .ok (.istore_n 2, 1) := by decide +kernel
theorem dX2_touches_2 : decode cX2_touches 2 = .ok (.iload_n 2, 1) := by decide +kernel
theorem dX2_touches_3 : decode cX2_touches 3 = .ok (.iconst 1, 1) := by decide +kernel
theorem dX2_touches_4 : decode cX2_touches 4 = .ok (.aload_n 0, 1) := by decide +kernel
theorem dX2_touches_5 : decode cX2_touches 5 = .ok (.getfield 19, 3) := by decide +kernel
theorem dX2_touches_8 : decode cX2_touches 8 = .ok (.ishl, 1) := by decide +kernel
theorem dX2_touches_9 : decode cX2_touches 9 = .ok (.if_icmp .ge 29, 3) := by decide +kernel
theorem dX2_touches_12 : decode cX2_touches 12 = .ok (.aload_n 0, 1) := by decide +kernel
theorem dX2_touches_13 : decode cX2_touches 13 = .ok (.getfield 16, 3) := by decide +kernel
theorem dX2_touches_16 : decode cX2_touches 16 = .ok (.iload_n 2, 1) := by decide +kernel
theorem dX2_touches_17 : decode cX2_touches 17 = .ok (.iaload, 1) := by decide +kernel
theorem dX2_touches_18 : decode cX2_touches 18 = .ok (.ifCond .ne 14, 3) := by decide +kernel
theorem dX2_touches_21 : decode cX2_touches 21 = .ok (.aload_n 0, 1) := by decide +kernel
theorem dX2_touches_22 : decode cX2_touches 22 = .ok (.iload_n 2, 1) := by decide +kernel
theorem dX2_touches_23 : decode cX2_touches 23 = .ok (.iload_n 1, 1) := by decide +kernel
theorem dX2_touches_24 : decode cX2_touches 24 = .ok (.invokevirtual 26, 3) := by decide +kernel
theorem dX2_touches_27 : decode cX2_touches 27 = .ok (.ifCond .eq 5, 3) := by decide +kernel
theorem dX2_touches_30 : decode cX2_touches 30 = .ok (.iconst 1, 1) := by decide +kernel
theorem dX2_touches_31 : decode cX2_touches 31 = .ok (.ireturn, 1) := by decide +kernel
theorem dX2_touches_32 : decode cX2_touches 32 = .ok (.iinc 2 1, 3) := by decide +kernel
theorem dX2_touches_35 : decode cX2_touches 35 = .ok (.goto (-33), 3) := by decide +kernel
theorem dX2_touches_38 : decode cX2_touches 38 = .ok (.iconst 0, 1) := by decide +kernel
theorem dX2_touches_39 : decode cX2_touches 39 = .ok (.ireturn, 1) := by decide +kernel
set_option maxRecDepth 20000 in
theorem ggX2_add_X2_isCube : GoodIn wsX2_add wsX2_isCube := goodIn_r _ [7, 8, 22, 23, 24, 25] (by decide +kernel) (by decide +kernel)
set_option maxRecDepth 20000 in
theorem gX2_add_X2_isCube : GoodIn wsX2_add (wsV RX2 33 RX2 yX2_isCube wsX2_isCube) := goodIn_app (goodIn_of _ (by decide +kernel)) ggX2_add_X2_isCube
set_option maxRecDepth 20000 in
theorem ggX2_add_X2_sort : GoodIn wsX2_add wsX2_sort := goodIn_r _ [12, 8, 13, 14, 15, 16, 6, 17, 1, 2, 18, 19, 20, 21, 22, 23, 24, 25] (by decide +kernel) (by decide +kernel)
set_option maxRecDepth 20000 in
theorem gX2_add_X2_sort : GoodIn wsX2_add (wsV RX2 23 RX2 yX2_sort wsX2_sort) := goodIn_app (goodIn_of _ (by decide +kernel)) ggX2_add_X2_sort
theorem dX2_add_0 : decode cX2_add 0 = .ok (.aload_n 0, 1) := by decide +kernel
theorem dX2_add_1 : decode cX2_add 1 = .ok (.iload_n 2, 1) := by decide +kernel
theorem dX2_add_2 : decode cX2_add 2 = .ok (.invokevirtual 33, 3) := by decide +kernel
theorem dX2_add_5 : decode cX2_add 5 = .ok (.ifCond .eq 14, 3) := by decide +kernel
theorem dX2_add_8 : decode cX2_add 8 = .ok (.aload_n 0, 1) := by decide +kernel
theorem dX2_add_9 : decode cX2_add 9 = .ok (.getfield 13, 3) := by decide +kernel
theorem dX2_add_12 : decode cX2_add 12 = .ok (.iload_n 1, 1) := by decide +kernel
theorem dX2_add_13 : decode cX2_add 13 = .ok (.iaload, 1) := by decide +kernel
theorem dX2_add_14 : decode cX2_add 14 = .ok (.bipush 24, 2) := by decide +kernel
theorem dX2_add_16 : decode cX2_add 16 = .ok (.if_icmp .ne 5, 3) := by decide +kernel
theorem dX2_add_19 : decode cX2_add 19 = .ok (.iconst 0, 1) := by decide +kernel
theorem dX2_add_20 : decode cX2_add 20 = .ok (.ireturn, 1) := by decide +kernel
theorem dX2_add_21 : decode cX2_add 21 = .ok (.aload_n 0, 1) := by decide +kernel
theorem dX2_add_22 : decode cX2_add 22 = .ok (.getfield 7, 3) := by decide +kernel
theorem dX2_add_25 : decode cX2_add 25 = .ok (.bipush 24, 2) := by decide +kernel
theorem dX2_add_27 : decode cX2_add 27 = .ok (.iload_n 1, 1) := by decide +kernel
theorem dX2_add_28 : decode cX2_add 28 = .ok (.imul, 1) := by decide +kernel
theorem dX2_add_29 : decode cX2_add 29 = .ok (.aload_n 0, 1) := by decide +kernel
theorem dX2_add_30 : decode cX2_add 30 = .ok (.getfield 13, 3) := by decide +kernel
theorem dX2_add_33 : decode cX2_add 33 = .ok (.iload_n 1, 1) := by decide +kernel
theorem dX2_add_34 : decode cX2_add 34 = .ok (.iaload, 1) := by decide +kernel
theorem dX2_add_35 : decode cX2_add 35 = .ok (.iadd, 1) := by decide +kernel
theorem dX2_add_36 : decode cX2_add 36 = .ok (.iload_n 2, 1) := by decide +kernel
theorem dX2_add_37 : decode cX2_add 37 = .ok (.iastore, 1) := by decide +kernel
theorem dX2_add_38 : decode cX2_add 38 = .ok (.aload_n 0, 1) := by decide +kernel
theorem dX2_add_39 : decode cX2_add 39 = .ok (.getfield 13, 3) := by decide +kernel
theorem dX2_add_42 : decode cX2_add 42 = .ok (.iload_n 1, 1) := by decide +kernel
theorem dX2_add_43 : decode cX2_add 43 = .ok (.dup2, 1) := by decide +kernel
theorem dX2_add_44 : decode cX2_add 44 = .ok (.iaload, 1) := by decide +kernel
theorem dX2_add_45 : decode cX2_add 45 = .ok (.iconst 1, 1) := by decide +kernel
theorem dX2_add_46 : decode cX2_add 46 = .ok (.iadd, 1) := by decide +kernel
theorem dX2_add_47 : decode cX2_add 47 = .ok (.iastore, 1) := by decide +kernel
theorem dX2_add_48 : decode cX2_add 48 = .ok (.aload_n 0, 1) := by decide +kernel
theorem dX2_add_49 : decode cX2_add 49 = .ok (.getfield 13, 3) := by decide +kernel
theorem dX2_add_52 : decode cX2_add 52 = .ok (.iconst 2, 1) := by decide +kernel
theorem dX2_add_53 : decode cX2_add 53 = .ok (.iconst 0, 1) := by decide +kernel
theorem dX2_add_54 : decode cX2_add 54 = .ok (.iastore, 1) := by decide +kernel
theorem dX2_add_55 : decode cX2_add 55 = .ok (.aload_n 0, 1) := by decide +kernel
theorem dX2_add_56 : decode cX2_add 56 = .ok (.invokevirtual 23, 3) := by decide +kernel
theorem dX2_add_59 : decode cX2_add 59 = .ok (.iconst 1, 1) := by decide +kernel
theorem dX2_add_60 : decode cX2_add 60 = .ok (.ireturn, 1) := by decide +kernel
set_option maxRecDepth 20000 in
theorem ggX2_on_X2_add : GoodIn wsX2_on wsX2_add := goodIn_r _ [5, 6, 7, 8, 9, 10, 4, 11, 12, 13, 14, 15, 16, 17, 18, 19, 20, 21, 22, 23, 24, 25, 26, 27, 28, 29] (by decide +kernel) (by decide +kernel)
set_option maxRecDepth 20000 in
theorem gX2_on_X2_add : GoodIn wsX2_on (wsV RX2 37 RX2 yX2_add wsX2_add) := goodIn_app (goodIn_of _ (by decide +kernel)) ggX2_on_X2_add
theorem dX2_on_0 : decode cX2_on 0 = .ok (.aload_n 0, 1) := by decide +kernel
theorem dX2_on_1 : decode cX2_on 1 = .ok (.iconst 0, 1) := by decide +kernel
theorem dX2_on_2 : decode cX2_on 2 = .ok (.iload_n 1, 1) := by decide +kernel
theorem dX2_on_3 : decode cX2_on 3 = .ok (.invokevirtual 37, 3) := by decide +kernel
theorem dX2_on_6 : decode cX2_on 6 = .ok (.ireturn, 1) := by decide +kernel
set_option maxRecDepth 20000 in
theorem ggX2_dc_X2_add : GoodIn wsX2_dc wsX2_add := goodIn_r _ [5, 6, 7, 8, 9, 10, 4, 11, 12, 13, 14, 15, 16, 17, 18, 19, 20, 21, 22, 23, 24, 25, 26, 27, 28, 29] (by decide +kernel) (by decide +kernel)
set_option maxRecDepth 20000 in
theorem gX2_dc_X2_add : GoodIn wsX2_dc (wsV RX2 37 RX2 yX2_add wsX2_add) := goodIn_app (goodIn_of _ (by decide +kernel)) ggX2_dc_X2_add
theorem dX2_dc_0 : decode cX2_dc 0 = .ok (.aload_n 0, 1) := by decide +kernel
theorem dX2_dc_1 : decode cX2_dc 1 = .ok (.iconst 1, 1) := by decide +kernel
theorem dX2_dc_2 : decode cX2_dc 2 = .ok (.iload_n 1, 1) := by decide +kernel
theorem dX2_dc_3 : decode cX2_dc 3 = .ok (.invokevirtual 37, 3) := by decide +kernel
theorem dX2_dc_6 : decode cX2_dc 6 = .ok (.ireturn, 1) := by decide +kernel
theorem dX2_isList_0 : decode cX2_isList 0 = .ok (.iload_n 0, 1) := by decide +kernel
theorem dX2_isList_1 : decode cX2_isList 1 = .ok (.ifCond .lt 12, 3) := by decide +kernel
theorem dX2_isList_4 : decode cX2_isList 4 = .ok (.iload_n 0, 1) := by decide +kernel
theorem dX2_isList_5 : decode cX2_isList 5 = .ok (.iconst 2, 1) := by decide +kernel
theorem dX2_isList_6 : decode cX2_isList 6 = .ok (.if_icmp .gt 7, 3) := by decide +kernel
theorem dX2_isList_9 : decode cX2_isList 9 = .ok (.iconst 1, 1) := by decide +kernel
theorem dX2_isList_10 : decode cX2_isList 10 = .ok (.goto 4, 3) := by decide +kernel
theorem dX2_isList_13 : decode cX2_isList 13 = .ok (.iconst 0, 1) := by decide +kernel
theorem dX2_isList_14 : decode cX2_isList 14 = .ok (.ireturn, 1) := by decide +kernel
set_option maxRecDepth 20000 in
theorem ggX2_size_X2_isList : GoodIn wsX2_size wsX2_isList := goodIn_r _ [5] (by decide +kernel) (by decide +kernel)
set_option maxRecDepth 20000 in
theorem gX2_size_X2_isList : GoodIn wsX2_size (va_wsS RX2 40 yX2_isList wsX2_isList) := goodIn_app (goodIn_of _ (by decide +kernel)) ggX2_size_X2_isList
theorem dX2_size_0 : decode cX2_size 0 = .ok (.iload_n 1, 1) := by decide +kernel
theorem dX2_size_1 : decode cX2_size 1 = .ok (.invokestatic 40, 3) := by decide +kernel
theorem dX2_size_4 : decode cX2_size 4 = .ok (.ifCond .eq 12, 3) := by decide +kernel
theorem dX2_size_7 : decode cX2_size 7 = .ok (.aload_n 0, 1) := by decide +kernel
theorem dX2_size_8 : decode cX2_size 8 = .ok (.getfield 13, 3) := by decide +kernel
theorem dX2_size_11 : decode cX2_size 11 = .ok (.iload_n 1, 1) := by decide +kernel
theorem dX2_size_12 : decode cX2_size 12 = .ok (.iaload, 1) := by decide +kernel
theorem dX2_size_13 : decode cX2_size 13 = .ok (.goto 4, 3) := by decide +kernel
theorem dX2_size_16 : decode cX2_size 16 = .ok (.iconst (-1), 1) := by decide +kernel
theorem dX2_size_17 : decode cX2_size 17 = .ok (.ireturn, 1) := by decide +kernel
set_option maxRecDepth 20000 in
theorem ggX2_cube_X2_isList : GoodIn wsX2_cube wsX2_isList := goodIn_r _ [6] (by decide +kernel) (by decide +kernel)
set_option maxRecDepth 20000 in
theorem gX2_cube_X2_isList : GoodIn wsX2_cube (va_wsS RX2 40 yX2_isList wsX2_isList) := goodIn_app (goodIn_of _ (by decide +kernel)) ggX2_cube_X2_isList
theorem dX2_cube_0 : decode cX2_cube 0 = .ok (.iload_n 1, 1) := by decide +kernel
theorem dX2_cube_1 : decode cX2_cube 1 = .ok (.invokestatic 40, 3) := by decide +kernel
theorem dX2_cube_4 : decode cX2_cube 4 = .ok (.ifCond .eq 31, 3) := by decide +kernel
theorem dX2_cube_7 : decode cX2_cube 7 = .ok (.iload_n 2, 1) := by decide +kernel
theorem dX2_cube_8 : decode cX2_cube 8 = .ok (.ifCond .lt 27, 3) := by decide +kernel
theorem dX2_cube_11 : decode cX2_cube 11 = .ok (.iload_n 2, 1) := by decide +kernel
theorem dX2_cube_12 : decode cX2_cube 12 = .ok (.aload_n 0, 1) := by decide +kernel
theorem dX2_cube_13 : decode cX2_cube 13 = .ok (.getfield 13, 3) := by decide +kernel
theorem dX2_cube_16 : decode cX2_cube 16 = .ok (.iload_n 1, 1) := by decide +kernel
theorem dX2_cube_17 : decode cX2_cube 17 = .ok (.iaload, 1) := by decide +kernel
theorem dX2_cube_18 : decode cX2_cube 18 = .ok (.if_icmp .ge 17, 3) := by decide +kernel
theorem dX2_cube_21 : decode cX2_cube 21 = .ok (.aload_n 0, 1) := by decide +kernel
theorem dX2_cube_22 : decode cX2_cube 22 = .ok (.getfield 7, 3) := by decide +kernel
theorem dX2_cube_25 : decode cX2_cube 25 = .ok (.bipush 24, 2) := by decide +kernel
theorem dX2_cube_27 : decode cX2_cube 27 = .ok (.iload_n 1, 1) := by decide +kernel
theorem dX2_cube_28 : decode cX2_cube 28 = .ok (.imul, 1) := by decide +kernel
theorem dX2_cube_29 : decode cX2_cube 29 = .ok (.iload_n 2, 1) := by decide +kernel
theorem dX2_cube_30 : decode cX2_cube 30 = .ok (.iadd, 1) := by decide +kernel
theorem dX2_cube_31 : decode cX2_cube 31 = .ok (.iaload, 1) := by decide +kernel
theorem dX2_cube_32 : decode cX2_cube 32 = .ok (.goto 4, 3) := by decide +kernel
theorem dX2_cube_35 : decode cX2_cube 35 = .ok (.iconst (-1), 1) := by decide +kernel
theorem dX2_cube_36 : decode cX2_cube 36 = .ok (.ireturn, 1) := by decide +kernel
theorem dX2_literalsOf_0 : decode cX2_literalsOf 0 = .ok (.iconst 0, 1) := by decide +kernel
theorem dX2_literalsOf_1 : decode cX2_literalsOf 1 = .ok (.istore_n 2, 1) := by decide +kernel
theorem dX2_literalsOf_2 : decode cX2_literalsOf 2 = .ok (.iconst 0, 1) := by decide +kernel
theorem dX2_literalsOf_3 : decode cX2_literalsOf 3 = .ok (.istore_n 3, 1) := by decide +kernel
theorem dX2_literalsOf_4 : decode cX2_literalsOf 4 = .ok (.iload_n 3, 1) := by decide +kernel
theorem dX2_literalsOf_5 : decode cX2_literalsOf 5 = .ok (.aload_n 0, 1) := by decide +kernel
theorem dX2_literalsOf_6 : decode cX2_literalsOf 6 = .ok (.getfield 13, 3) := by decide +kernel
theorem dX2_literalsOf_9 : decode cX2_literalsOf 9 = .ok (.iload_n 1, 1) := by decide +kernel
theorem dX2_literalsOf_10 : decode cX2_literalsOf 10 = .ok (.iaload, 1) := by decide +kernel
theorem dX2_literalsOf_11 : decode cX2_literalsOf 11 = .ok (.if_icmp .ge 52, 3) := by decide +kernel
theorem dX2_literalsOf_14 : decode cX2_literalsOf 14 = .ok (.iconst 0, 1) := by decide +kernel
theorem dX2_literalsOf_15 : decode cX2_literalsOf 15 = .ok (.istore 4, 2) := by decide +kernel
theorem dX2_literalsOf_17 : decode cX2_literalsOf 17 = .ok (.iload 4, 2) := by decide +kernel
theorem dX2_literalsOf_19 : decode cX2_literalsOf 19 = .ok (.aload_n 0, 1) := by decide +kernel
theorem dX2_literalsOf_20 : decode cX2_literalsOf 20 = .ok (.getfield 19, 3) := by decide +kernel
theorem dX2_literalsOf_23 : decode cX2_literalsOf 23 = .ok (.if_icmp .ge 34, 3) := by decide +kernel
theorem dX2_literalsOf_26 : decode cX2_literalsOf 26 = .ok (.aload_n 0, 1) := by decide +kernel
theorem dX2_literalsOf_27 : decode cX2_literalsOf 27 = .ok (.getfield 7, 3) := by decide +kernel
theorem dX2_literalsOf_30 : decode cX2_literalsOf 30 = .ok (.bipush 24, 2) := by decide +kernel
theorem dX2_literalsOf_32 : decode cX2_literalsOf 32 = .ok (.iload_n 1, 1) := by decide +kernel
theorem dX2_literalsOf_33 : decode cX2_literalsOf 33 = .ok (.imul, 1) := by decide +kernel
theorem dX2_literalsOf_34 : decode cX2_literalsOf 34 = .ok (.iload_n 3, 1) := by decide +kernel
theorem dX2_literalsOf_35 : decode cX2_literalsOf 35 = .ok (.iadd, 1) := by decide +kernel
theorem dX2_literalsOf_36 : decode cX2_literalsOf 36 = .ok (.iaload, 1) := by decide +kernel
theorem dX2_literalsOf_37 : decode cX2_literalsOf 37 = .ok (.iconst 2, 1) := by decide +kernel
theorem dX2_literalsOf_38 : decode cX2_literalsOf 38 = .ok (.iload 4, 2) := by decide +kernel
theorem dX2_literalsOf_40 : decode cX2_literalsOf 40 = .ok (.imul, 1) := by decide +kernel
theorem dX2_literalsOf_41 : decode cX2_literalsOf 41 = .ok (.ishr, 1) := by decide +kernel
theorem dX2_literalsOf_42 : decode cX2_literalsOf 42 = .ok (.iconst 3, 1) := by decide +kernel
theorem dX2_literalsOf_43 : decode cX2_literalsOf 43 = .ok (.iand, 1) := by decide +kernel
theorem dX2_literalsOf_44 : decode cX2_literalsOf 44 = .ok (.iconst 3, 1) := by decide +kernel
theorem dX2_literalsOf_45 : decode cX2_literalsOf 45 = .ok (.if_icmp .eq 6, 3) := by decide +kernel
theorem dX2_literalsOf_48 : decode cX2_literalsOf 48 = .ok (.iinc 2 1, 3) := by decide +kernel
theorem dX2_literalsOf_51 : decode cX2_literalsOf 51 = .ok (.iinc 4 1, 3) := by decide +kernel
theorem dX2_literalsOf_54 : decode cX2_literalsOf 54 = .ok (.goto (-37), 3) := by decide +kernel
theorem dX2_literalsOf_57 : decode cX2_literalsOf 57 = .ok (.iinc 3 1, 3) := by decide +kernel
theorem dX2_literalsOf_60 : decode cX2_literalsOf 60 = .ok (.goto (-56), 3) := by decide +kernel
theorem dX2_literalsOf_63 : decode cX2_literalsOf 63 = .ok (.iload_n 2, 1) := by decide +kernel
theorem dX2_literalsOf_64 : decode cX2_literalsOf 64 = .ok (.ireturn, 1) := by decide +kernel
set_option maxRecDepth 20000 in
theorem ggX2_literals_X2_isList : GoodIn wsX2_literals wsX2_isList := goodIn_r _ [4] (by decide +kernel) (by decide +kernel)
set_option maxRecDepth 20000 in
theorem gX2_literals_X2_isList : GoodIn wsX2_literals (va_wsS RX2 40 yX2_isList wsX2_isList) := goodIn_app (goodIn_of _ (by decide +kernel)) ggX2_literals_X2_isList
set_option maxRecDepth 20000 in
theorem ggX2_literals_X2_literalsOf : GoodIn wsX2_literals wsX2_literalsOf := goodIn_r _ [8, 9, 10, 11, 12, 13, 14, 15] (by decide +kernel) (by decide +kernel)
set_option maxRecDepth 20000 in
theorem gX2_literals_X2_literalsOf : GoodIn wsX2_literals (wsV RX2 43 RX2 yX2_literalsOf wsX2_literalsOf) := goodIn_app (goodIn_of _ (by decide +kernel)) ggX2_literals_X2_literalsOf
theorem dX2_literals_0 : decode cX2_literals 0 = .ok (.iload_n 1, 1) := by decide +kernel
theorem dX2_literals_1 : decode cX2_literals 1 = .ok (.invokestatic 40, 3) := by decide +kernel
theorem dX2_literals_4 : decode cX2_literals 4 = .ok (.ifCond .eq 11, 3) := by decide +kernel
theorem dX2_literals_7 : decode cX2_literals 7 = .ok (.aload_n 0, 1) := by decide +kernel
theorem dX2_literals_8 : decode cX2_literals 8 = .ok (.iload_n 1, 1) := by decide +kernel
theorem dX2_literals_9 : decode cX2_literals 9 = .ok (.invokevirtual 43, 3) := by decide +kernel
theorem dX2_literals_12 : decode cX2_literals 12 = .ok (.goto 4, 3) := by decide +kernel
theorem dX2_literals_15 : decode cX2_literals 15 = .ok (.iconst (-1), 1) := by decide +kernel
theorem dX2_literals_16 : decode cX2_literals 16 = .ok (.ireturn, 1) := by decide +kernel
theorem dX2_isPoint_0 : decode cX2_isPoint 0 = .ok (.iload_n 1, 1) := by decide +kernel
theorem dX2_isPoint_1 : decode cX2_isPoint 1 = .ok (.ifCond .lt 17, 3) := by decide +kernel
theorem dX2_isPoint_4 : decode cX2_isPoint 4 = .ok (.iload_n 1, 1) := by decide +kernel
theorem dX2_isPoint_5 : decode cX2_isPoint 5 = .ok (.iconst 1, 1) := by decide +kernel
theorem dX2_isPoint_6 : decode cX2_isPoint 6 = .ok (.aload_n 0, 1) := by decide +kernel
theorem dX2_isPoint_7 : decode cX2_isPoint 7 = .ok (.getfield 19, 3) := by decide +kernel
theorem dX2_isPoint_10 : decode cX2_isPoint 10 = .ok (.ishl, 1) := by decide +kernel
theorem dX2_isPoint_11 : decode cX2_isPoint 11 = .ok (.if_icmp .ge 7, 3) := by decide +kernel
theorem dX2_isPoint_14 : decode cX2_isPoint 14 = .ok (.iconst 1, 1) := by decide +kernel
theorem dX2_isPoint_15 : decode cX2_isPoint 15 = .ok (.goto 4, 3) := by decide +kernel
theorem dX2_isPoint_18 : decode cX2_isPoint 18 = .ok (.iconst 0, 1) := by decide +kernel
theorem dX2_isPoint_19 : decode cX2_isPoint 19 = .ok (.ireturn, 1) := by decide +kernel
set_option maxRecDepth 20000 in
theorem ggX2_kind_X2_isPoint : GoodIn wsX2_kind wsX2_isPoint := goodIn_r _ [6, 7, 8, 9, 10, 11] (by decide +kernel) (by decide +kernel)
set_option maxRecDepth 20000 in
theorem gX2_kind_X2_isPoint : GoodIn wsX2_kind (wsV RX2 47 RX2 yX2_isPoint wsX2_isPoint) := goodIn_app (goodIn_of _ (by decide +kernel)) ggX2_kind_X2_isPoint
theorem dX2_kind_0 : decode cX2_kind 0 = .ok (.aload_n 0, 1) := by decide +kernel
theorem dX2_kind_1 : decode cX2_kind 1 = .ok (.iload_n 1, 1) := by decide +kernel
theorem dX2_kind_2 : decode cX2_kind 2 = .ok (.invokevirtual 47, 3) := by decide +kernel
theorem dX2_kind_5 : decode cX2_kind 5 = .ok (.ifCond .eq 12, 3) := by decide +kernel
theorem dX2_kind_8 : decode cX2_kind 8 = .ok (.aload_n 0, 1) := by decide +kernel
theorem dX2_kind_9 : decode cX2_kind 9 = .ok (.getfield 16, 3) := by decide +kernel
theorem dX2_kind_12 : decode cX2_kind 12 = .ok (.iload_n 1, 1) := by decide +kernel
theorem dX2_kind_13 : decode cX2_kind 13 = .ok (.iaload, 1) := by decide +kernel
theorem dX2_kind_14 : decode cX2_kind 14 = .ok (.goto 4, 3) := by decide +kernel
theorem dX2_kind_17 : decode cX2_kind 17 = .ok (.iconst (-1), 1) := by decide +kernel
theorem dX2_kind_18 : decode cX2_kind 18 = .ok (.ireturn, 1) := by decide +kernel
set_option maxRecDepth 20000 in
theorem ggX2_holds_X2_isList : GoodIn wsX2_holds wsX2_isList := goodIn_r _ [4] (by decide +kernel) (by decide +kernel)
set_option maxRecDepth 20000 in
theorem gX2_holds_X2_isList : GoodIn wsX2_holds (va_wsS RX2 40 yX2_isList wsX2_isList) := goodIn_app (goodIn_of _ (by decide +kernel)) ggX2_holds_X2_isList
set_option maxRecDepth 20000 in
theorem ggX2_holds_X2_isPoint : GoodIn wsX2_holds wsX2_isPoint := goodIn_r _ [8, 9, 20, 21, 22, 23] (by decide +kernel) (by decide +kernel)
set_option maxRecDepth 20000 in
theorem gX2_holds_X2_isPoint : GoodIn wsX2_holds (wsV RX2 47 RX2 yX2_isPoint wsX2_isPoint) := goodIn_app (goodIn_of _ (by decide +kernel)) ggX2_holds_X2_isPoint
set_option maxRecDepth 20000 in
theorem ggX2_holds_X2_inList : GoodIn wsX2_holds wsX2_inList := goodIn_r _ [13, 14, 15, 16, 17, 18, 3, 19, 9, 20, 21, 22, 23] (by decide +kernel) (by decide +kernel)
set_option maxRecDepth 20000 in
theorem gX2_holds_X2_inList : GoodIn wsX2_holds (wsV RX2 30 RX2 yX2_inList wsX2_inList) := goodIn_app (goodIn_of _ (by decide +kernel)) ggX2_holds_X2_inList
theorem dX2_holds_0 : decode cX2_holds 0 = .ok (.iload_n 1, 1) := by decide +kernel
theorem dX2_holds_1 : decode cX2_holds 1 = .ok (.invokestatic 40, 3) := by decide +kernel
theorem dX2_holds_4 : decode cX2_holds 4 = .ok (.ifCond .eq 24, 3) := by decide +kernel
theorem dX2_holds_7 : decode cX2_holds 7 = .ok (.aload_n 0, 1) := by decide +kernel
theorem dX2_holds_8 : decode cX2_holds 8 = .ok (.iload_n 2, 1) := by decide +kernel
theorem dX2_holds_9 : decode cX2_holds 9 = .ok (.invokevirtual 47, 3) := by decide +kernel
theorem dX2_holds_12 : decode cX2_holds 12 = .ok (.ifCond .eq 16, 3) := by decide +kernel
theorem dX2_holds_15 : decode cX2_holds 15 = .ok (.aload_n 0, 1) := by decide +kernel
theorem dX2_holds_16 : decode cX2_holds 16 = .ok (.iload_n 2, 1) := by decide +kernel
theorem dX2_holds_17 : decode cX2_holds 17 = .ok (.iload_n 1, 1) := by decide +kernel
theorem dX2_holds_18 : decode cX2_holds 18 = .ok (.invokevirtual 30, 3) := by decide +kernel
theorem dX2_holds_21 : decode cX2_holds 21 = .ok (.ifCond .eq 7, 3) := by decide +kernel
theorem dX2_holds_24 : decode cX2_holds 24 = .ok (.iconst 1, 1) := by decide +kernel
theorem dX2_holds_25 : decode cX2_holds 25 = .ok (.goto 4, 3) := by decide +kernel
theorem dX2_holds_28 : decode cX2_holds 28 = .ok (.iconst 0, 1) := by decide +kernel
theorem dX2_holds_29 : decode cX2_holds 29 = .ok (.ireturn, 1) := by decide +kernel
set_option maxRecDepth 20000 in
theorem ggX2_missing_X2_isList : GoodIn wsX2_missing wsX2_isList := goodIn_r _ [5] (by decide +kernel) (by decide +kernel)
set_option maxRecDepth 20000 in
theorem gX2_missing_X2_isList : GoodIn wsX2_missing (va_wsS RX2 40 yX2_isList wsX2_isList) := goodIn_app (goodIn_of _ (by decide +kernel)) ggX2_missing_X2_isList
set_option maxRecDepth 20000 in
theorem ggX2_missing_X2_inList : GoodIn wsX2_missing wsX2_inList := goodIn_r _ [9, 10, 11, 12, 13, 14, 4, 15, 1, 16, 17, 18, 19] (by decide +kernel) (by decide +kernel)
set_option maxRecDepth 20000 in
theorem gX2_missing_X2_inList : GoodIn wsX2_missing (wsV RX2 30 RX2 yX2_inList wsX2_inList) := goodIn_app (goodIn_of _ (by decide +kernel)) ggX2_missing_X2_inList
theorem dX2_missing_0 : decode cX2_missing 0 = .ok (.iload_n 1, 1) := by decide +kernel
theorem dX2_missing_1 : decode cX2_missing 1 = .ok (.invokestatic 40, 3) := by decide +kernel
theorem dX2_missing_4 : decode cX2_missing 4 = .ok (.ifCond .ne 5, 3) := by decide +kernel
theorem dX2_missing_7 : decode cX2_missing 7 = .ok (.iconst (-1), 1) := by decide +kernel
theorem dX2_missing_8 : decode cX2_missing 8 = .ok (.ireturn, 1) := by decide +kernel
theorem dX2_missing_9 : decode cX2_missing 9 = .ok (.iconst 0, 1) := by decide +kernel
theorem dX2_missing_10 : decode cX2_missing 10 = .ok (.istore_n 2, 1) := by decide +kernel
theorem dX2_missing_11 : decode cX2_missing 11 = .ok (.iconst 0, 1) := by decide +kernel
theorem dX2_missing_12 : decode cX2_missing 12 = .ok (.istore_n 3, 1) := by decide +kernel
theorem dX2_missing_13 : decode cX2_missing 13 = .ok (.iload_n 3, 1) := by decide +kernel
theorem dX2_missing_14 : decode cX2_missing 14 = .ok (.iconst 1, 1) := by decide +kernel
theorem dX2_missing_15 : decode cX2_missing 15 = .ok (.aload_n 0, 1) := by decide +kernel
theorem dX2_missing_16 : decode cX2_missing 16 = .ok (.getfield 19, 3) := by decide +kernel
theorem dX2_missing_19 : decode cX2_missing 19 = .ok (.ishl, 1) := by decide +kernel
theorem dX2_missing_20 : decode cX2_missing 20 = .ok (.if_icmp .ge 21, 3) := by decide +kernel
theorem dX2_missing_23 : decode cX2_missing 23 = .ok (.aload_n 0, 1) := by decide +kernel
theorem dX2_missing_24 : decode cX2_missing 24 = .ok (.iload_n 3, 1) := by decide +kernel
theorem dX2_missing_25 : decode cX2_missing 25 = .ok (.iload_n 1, 1) := by decide +kernel
theorem dX2_missing_26 : decode cX2_missing 26 = .ok (.invokevirtual 30, 3) := by decide +kernel
theorem dX2_missing_29 : decode cX2_missing 29 = .ok (.ifCond .ne 6, 3) := by decide +kernel
theorem dX2_missing_32 : decode cX2_missing 32 = .ok (.iinc 2 1, 3) := by decide +kernel
theorem dX2_missing_35 : decode cX2_missing 35 = .ok (.iinc 3 1, 3) := by decide +kernel
theorem dX2_missing_38 : decode cX2_missing 38 = .ok (.goto (-25), 3) := by decide +kernel
theorem dX2_missing_41 : decode cX2_missing 41 = .ok (.iload_n 2, 1) := by decide +kernel
theorem dX2_missing_42 : decode cX2_missing 42 = .ok (.ireturn, 1) := by decide +kernel
set_option maxRecDepth 20000 in
theorem ggX2_tautology_X2_missing : GoodIn wsX2_tautology wsX2_missing := goodIn_r _ [5, 6, 7, 8, 4, 9, 10, 11, 12, 13, 14, 15, 16, 17, 18, 19, 20, 21, 22, 23] (by decide +kernel) (by decide +kernel)
set_option maxRecDepth 20000 in
theorem gX2_tautology_X2_missing : GoodIn wsX2_tautology (wsV RX2 50 RX2 yX2_missing wsX2_missing) := goodIn_app (goodIn_of _ (by decide +kernel)) ggX2_tautology_X2_missing
theorem dX2_tautology_0 : decode cX2_tautology 0 = .ok (.aload_n 0, 1) := by decide +kernel
theorem dX2_tautology_1 : decode cX2_tautology 1 = .ok (.iload_n 1, 1) := by decide +kernel
theorem dX2_tautology_2 : decode cX2_tautology 2 = .ok (.invokevirtual 50, 3) := by decide +kernel
theorem dX2_tautology_5 : decode cX2_tautology 5 = .ok (.ifCond .ne 7, 3) := by decide +kernel
theorem dX2_tautology_8 : decode cX2_tautology 8 = .ok (.iconst 1, 1) := by decide +kernel
theorem dX2_tautology_9 : decode cX2_tautology 9 = .ok (.goto 4, 3) := by decide +kernel
theorem dX2_tautology_12 : decode cX2_tautology 12 = .ok (.iconst 0, 1) := by decide +kernel
theorem dX2_tautology_13 : decode cX2_tautology 13 = .ok (.ireturn, 1) := by decide +kernel
set_option maxRecDepth 20000 in
theorem ggX2_same_X2_isList : GoodIn wsX2_same wsX2_isList := goodIn_r _ [6] (by decide +kernel) (by decide +kernel)
set_option maxRecDepth 20000 in
theorem gX2_same_X2_isList : GoodIn wsX2_same (va_wsS RX2 40 yX2_isList wsX2_isList) := goodIn_app (goodIn_of _ (by decide +kernel)) ggX2_same_X2_isList
set_option maxRecDepth 20000 in
theorem ggX2_same_X2_inList : GoodIn wsX2_same wsX2_inList := goodIn_r _ [10, 11, 12, 13, 14, 15, 5, 16, 1, 17, 18, 19, 20] (by decide +kernel) (by decide +kernel)
set_option maxRecDepth 20000 in
theorem gX2_same_X2_inList : GoodIn wsX2_same (wsV RX2 30 RX2 yX2_inList wsX2_inList) := goodIn_app (goodIn_of _ (by decide +kernel)) ggX2_same_X2_inList
theorem dX2_same_0 : decode cX2_same 0 = .ok (.iload_n 1, 1) := by decide +kernel
theorem dX2_same_1 : decode cX2_same 1 = .ok (.invokestatic 40, 3) := by decide +kernel
theorem dX2_same_4 : decode cX2_same 4 = .ok (.ifCond .eq 10, 3) := by decide +kernel
theorem dX2_same_7 : decode cX2_same 7 = .ok (.iload_n 2, 1) := by decide +kernel
theorem dX2_same_8 : decode cX2_same 8 = .ok (.invokestatic 40, 3) := by decide +kernel
theorem dX2_same_11 : decode cX2_same 11 = .ok (.ifCond .ne 5, 3) := by decide +kernel
theorem dX2_same_14 : decode cX2_same 14 = .ok (.iconst 0, 1) := by decide +kernel
theorem dX2_same_15 : decode cX2_same 15 = .ok (.ireturn, 1) := by decide +kernel
theorem dX2_same_16 : decode cX2_same 16 = .ok (.iconst 0, 1) := by decide +kernel
theorem dX2_same_17 : decode cX2_same 17 = .ok (.istore_n 3, 1) := by decide +kernel
theorem dX2_same_18 : decode cX2_same 18 = .ok (.iload_n 3, 1) := by decide +kernel
theorem dX2_same_19 : decode cX2_same 19 = .ok (.iconst 1, 1) := by decide +kernel
theorem dX2_same_20 : decode cX2_same 20 = .ok (.aload_n 0, 1) := by decide +kernel
theorem dX2_same_21 : decode cX2_same 21 = .ok (.getfield 19, 3) := by decide +kernel
theorem dX2_same_24 : decode cX2_same 24 = .ok (.ishl, 1) := by decide +kernel
theorem dX2_same_25 : decode cX2_same 25 = .ok (.if_icmp .ge 36, 3) := by decide +kernel
theorem dX2_same_28 : decode cX2_same 28 = .ok (.aload_n 0, 1) := by decide +kernel
theorem dX2_same_29 : decode cX2_same 29 = .ok (.getfield 16, 3) := by decide +kernel
theorem dX2_same_32 : decode cX2_same 32 = .ok (.iload_n 3, 1) := by decide +kernel
theorem dX2_same_33 : decode cX2_same 33 = .ok (.iaload, 1) := by decide +kernel
theorem dX2_same_34 : decode cX2_same 34 = .ok (.iconst 2, 1) := by decide +kernel
theorem dX2_same_35 : decode cX2_same 35 = .ok (.if_icmp .eq 20, 3) := by decide +kernel
theorem dX2_same_38 : decode cX2_same 38 = .ok (.aload_n 0, 1) := by decide +kernel
theorem dX2_same_39 : decode cX2_same 39 = .ok (.iload_n 3, 1) := by decide +kernel
theorem dX2_same_40 : decode cX2_same 40 = .ok (.iload_n 1, 1) := by decide +kernel
theorem dX2_same_41 : decode cX2_same 41 = .ok (.invokevirtual 30, 3) := by decide +kernel
theorem dX2_same_44 : decode cX2_same 44 = .ok (.aload_n 0, 1) := by decide +kernel
theorem dX2_same_45 : decode cX2_same 45 = .ok (.iload_n 3, 1) := by decide +kernel
theorem dX2_same_46 : decode cX2_same 46 = .ok (.iload_n 2, 1) := by decide +kernel
theorem dX2_same_47 : decode cX2_same 47 = .ok (.invokevirtual 30, 3) := by decide +kernel
theorem dX2_same_50 : decode cX2_same 50 = .ok (.if_icmp .eq 5, 3) := by decide +kernel
theorem dX2_same_53 : decode cX2_same 53 = .ok (.iconst 0, 1) := by decide +kernel
theorem dX2_same_54 : decode cX2_same 54 = .ok (.ireturn, 1) := by decide +kernel
theorem dX2_same_55 : decode cX2_same 55 = .ok (.iinc 3 1, 3) := by decide +kernel
theorem dX2_same_58 : decode cX2_same 58 = .ok (.goto (-40), 3) := by decide +kernel
theorem dX2_same_61 : decode cX2_same 61 = .ok (.iconst 1, 1) := by decide +kernel
theorem dX2_same_62 : decode cX2_same 62 = .ok (.ireturn, 1) := by decide +kernel
set_option maxRecDepth 20000 in
theorem ggX2_prime_X2_cube : GoodIn wsX2_prime wsX2_cube := goodIn_r _ [6, 7, 8, 9, 10, 5, 11, 25, 26, 27, 28] (by decide +kernel) (by decide +kernel)
set_option maxRecDepth 20000 in
theorem gX2_prime_X2_cube : GoodIn wsX2_prime (wsV RX2 53 RX2 yX2_cube wsX2_cube) := goodIn_app (goodIn_of _ (by decide +kernel)) ggX2_prime_X2_cube
set_option maxRecDepth 20000 in
theorem ggX2_prime_X2_isVoid : GoodIn wsX2_prime wsX2_isVoid := goodIn_r _ [15, 1, 25, 26, 27, 28] (by decide +kernel) (by decide +kernel)
set_option maxRecDepth 20000 in
theorem gX2_prime_X2_isVoid : GoodIn wsX2_prime (wsV RX2 57 RX2 yX2_isVoid wsX2_isVoid) := goodIn_app (goodIn_of _ (by decide +kernel)) ggX2_prime_X2_isVoid
set_option maxRecDepth 20000 in
theorem ggX2_prime_X2_touches : GoodIn wsX2_prime wsX2_touches := goodIn_r _ [19, 1, 20, 21, 22, 23, 5, 24, 25, 26, 27, 28] (by decide +kernel) (by decide +kernel)
set_option maxRecDepth 20000 in
theorem gX2_prime_X2_touches : GoodIn wsX2_prime (wsV RX2 60 RX2 yX2_touches wsX2_touches) := goodIn_app (goodIn_of _ (by decide +kernel)) ggX2_prime_X2_touches
theorem dX2_prime_0 : decode cX2_prime 0 = .ok (.aload_n 0, 1) := by decide +kernel
theorem dX2_prime_1 : decode cX2_prime 1 = .ok (.iload_n 1, 1) := by decide +kernel
theorem dX2_prime_2 : decode cX2_prime 2 = .ok (.iload_n 2, 1) := by decide +kernel
theorem dX2_prime_3 : decode cX2_prime 3 = .ok (.invokevirtual 53, 3) := by decide +kernel
theorem dX2_prime_6 : decode cX2_prime 6 = .ok (.istore_n 3, 1) := by decide +kernel
theorem dX2_prime_7 : decode cX2_prime 7 = .ok (.iload_n 3, 1) := by decide +kernel
theorem dX2_prime_8 : decode cX2_prime 8 = .ok (.ifCond .lt 19, 3) := by decide +kernel
theorem dX2_prime_11 : decode cX2_prime 11 = .ok (.aload_n 0, 1) := by decide +kernel
theorem dX2_prime_12 : decode cX2_prime 12 = .ok (.iload_n 3, 1) := by decide +kernel
theorem dX2_prime_13 : decode cX2_prime 13 = .ok (.invokevirtual 57, 3) := by decide +kernel
theorem dX2_prime_16 : decode cX2_prime 16 = .ok (.ifCond .ne 11, 3) := by decide +kernel
theorem dX2_prime_19 : decode cX2_prime 19 = .ok (.aload_n 0, 1) := by decide +kernel
theorem dX2_prime_20 : decode cX2_prime 20 = .ok (.iload_n 3, 1) := by decide +kernel
theorem dX2_prime_21 : decode cX2_prime 21 = .ok (.invokevirtual 60, 3) := by decide +kernel
theorem dX2_prime_24 : decode cX2_prime 24 = .ok (.ifCond .eq 5, 3) := by decide +kernel
theorem dX2_prime_27 : decode cX2_prime 27 = .ok (.iconst 0, 1) := by decide +kernel
theorem dX2_prime_28 : decode cX2_prime 28 = .ok (.ireturn, 1) := by decide +kernel
theorem dX2_prime_29 : decode cX2_prime 29 = .ok (.iconst 0, 1) := by decide +kernel
theorem dX2_prime_30 : decode cX2_prime 30 = .ok (.istore 4, 2) := by decide +kernel
theorem dX2_prime_32 : decode cX2_prime 32 = .ok (.iload 4, 2) := by decide +kernel
theorem dX2_prime_34 : decode cX2_prime 34 = .ok (.aload_n 0, 1) := by decide +kernel
theorem dX2_prime_35 : decode cX2_prime 35 = .ok (.getfield 19, 3) := by decide +kernel
theorem dX2_prime_38 : decode cX2_prime 38 = .ok (.if_icmp .ge 36, 3) := by decide +kernel
theorem dX2_prime_41 : decode cX2_prime 41 = .ok (.iload_n 3, 1) := by decide +kernel
theorem dX2_prime_42 : decode cX2_prime 42 = .ok (.iconst 3, 1) := by decide +kernel
theorem dX2_prime_43 : decode cX2_prime 43 = .ok (.iconst 2, 1) := by decide +kernel
theorem dX2_prime_44 : decode cX2_prime 44 = .ok (.iload 4, 2) := by decide +kernel
theorem dX2_prime_46 : decode cX2_prime 46 = .ok (.imul, 1) := by decide +kernel
theorem dX2_prime_47 : decode cX2_prime 47 = .ok (.ishl, 1) := by decide +kernel
theorem dX2_prime_48 : decode cX2_prime 48 = .ok (.ior, 1) := by decide +kernel
theorem dX2_prime_49 : decode cX2_prime 49 = .ok (.istore 5, 2) := by decide +kernel
theorem dX2_prime_51 : decode cX2_prime 51 = .ok (.iload 5, 2) := by decide +kernel
theorem dX2_prime_53 : decode cX2_prime 53 = .ok (.iload_n 3, 1) := by decide +kernel
theorem dX2_prime_54 : decode cX2_prime 54 = .ok (.if_icmp .eq 14, 3) := by decide +kernel
theorem dX2_prime_57 : decode cX2_prime 57 = .ok (.aload_n 0, 1) := by decide +kernel
theorem dX2_prime_58 : decode cX2_prime 58 = .ok (.iload 5, 2) := by decide +kernel
theorem dX2_prime_60 : decode cX2_prime 60 = .ok (.invokevirtual 60, 3) := by decide +kernel
theorem dX2_prime_63 : decode cX2_prime 63 = .ok (.ifCond .ne 5, 3) := by decide +kernel
theorem dX2_prime_66 : decode cX2_prime 66 = .ok (.iconst 0, 1) := by decide +kernel
theorem dX2_prime_67 : decode cX2_prime 67 = .ok (.ireturn, 1) := by decide +kernel
theorem dX2_prime_68 : decode cX2_prime 68 = .ok (.iinc 4 1, 3) := by decide +kernel
theorem dX2_prime_71 : decode cX2_prime 71 = .ok (.goto (-39), 3) := by decide +kernel
theorem dX2_prime_74 : decode cX2_prime 74 = .ok (.iconst 1, 1) := by decide +kernel
theorem dX2_prime_75 : decode cX2_prime 75 = .ok (.ireturn, 1) := by decide +kernel
set_option maxRecDepth 20000 in
theorem ggX2_widened_X2_touches : GoodIn wsX2_widened wsX2_touches := goodIn_r _ [6, 1, 7, 8, 9, 10, 5, 11, 12, 13, 14, 15] (by decide +kernel) (by decide +kernel)
set_option maxRecDepth 20000 in
theorem gX2_widened_X2_touches : GoodIn wsX2_widened (wsV RX2 60 RX2 yX2_touches wsX2_touches) := goodIn_app (goodIn_of _ (by decide +kernel)) ggX2_widened_X2_touches
theorem dX2_widened_0 : decode cX2_widened 0 = .ok (.iload_n 1, 1) := by decide +kernel
theorem dX2_widened_1 : decode cX2_widened 1 = .ok (.istore_n 3, 1) := by decide +kernel
theorem dX2_widened_2 : decode cX2_widened 2 = .ok (.iconst 0, 1) := by decide +kernel
theorem dX2_widened_3 : decode cX2_widened 3 = .ok (.istore 4, 2) := by decide +kernel
theorem dX2_widened_5 : decode cX2_widened 5 = .ok (.iload 4, 2) := by decide +kernel
