theorem dX1_begin_13 : decode cX1_begin 13 = .ok (.getfield 16, 3) := by decide +kernel
theorem dX1_begin_16 : decode cX1_begin 16 = .ok (.invokevirtual 53, 3) := by decide +kernel
theorem dX1_begin_19 : decode cX1_begin 19 = .ok (.aload_n 0, 1) := by decide +kernel
theorem dX1_begin_20 : decode cX1_begin 20 = .ok (.getfield 19, 3) := by decide +kernel
theorem dX1_begin_23 : decode cX1_begin 23 = .ok (.invokevirtual 53, 3) := by decide +kernel
theorem dX1_begin_26 : decode cX1_begin 26 = .ok (.aload_n 0, 1) := by decide +kernel
theorem dX1_begin_27 : decode cX1_begin 27 = .ok (.invokevirtual 119, 3) := by decide +kernel
theorem dX1_begin_30 : decode cX1_begin 30 = .ok (.iconst 0, 1) := by decide +kernel
theorem dX1_begin_31 : decode cX1_begin 31 = .ok (.istore_n 2, 1) := by decide +kernel
theorem dX1_begin_32 : decode cX1_begin 32 = .ok (.iload_n 2, 1) := by decide +kernel
theorem dX1_begin_33 : decode cX1_begin 33 = .ok (.sipush 256, 3) := by decide +kernel
theorem dX1_begin_36 : decode cX1_begin 36 = .ok (.if_icmp .ge 16, 3) := by decide +kernel
theorem dX1_begin_39 : decode cX1_begin 39 = .ok (.aload_n 0, 1) := by decide +kernel
theorem dX1_begin_40 : decode cX1_begin 40 = .ok (.getfield 29, 3) := by decide +kernel
theorem dX1_begin_43 : decode cX1_begin 43 = .ok (.iload_n 2, 1) := by decide +kernel
theorem dX1_begin_44 : decode cX1_begin 44 = .ok (.iconst 0, 1) := by decide +kernel
theorem dX1_begin_45 : decode cX1_begin 45 = .ok (.iastore, 1) := by decide +kernel
theorem dX1_begin_46 : decode cX1_begin 46 = .ok (.iinc 2 1, 3) := by decide +kernel
theorem dX1_begin_49 : decode cX1_begin 49 = .ok (.goto (-17), 3) := by decide +kernel
theorem dX1_begin_52 : decode cX1_begin 52 = .ok (.return_, 1) := by decide +kernel
theorem dX1_fillPointCubes_0 : decode cX1_fillPointCubes 0 = .ok (.aload_n 0, 1) := by decide +kernel
theorem dX1_fillPointCubes_1 : decode cX1_fillPointCubes 1 = .ok (.getfield 25, 3) := by decide +kernel
theorem dX1_fillPointCubes_4 : decode cX1_fillPointCubes 4 = .ok (.iconst 0, 1) := by decide +kernel
theorem dX1_fillPointCubes_5 : decode cX1_fillPointCubes 5 = .ok (.iconst 0, 1) := by decide +kernel
theorem dX1_fillPointCubes_6 : decode cX1_fillPointCubes 6 = .ok (.iastore, 1) := by decide +kernel
theorem dX1_fillPointCubes_7 : decode cX1_fillPointCubes 7 = .ok (.iconst 0, 1) := by decide +kernel
theorem dX1_fillPointCubes_8 : decode cX1_fillPointCubes 8 = .ok (.istore_n 1, 1) := by decide +kernel
theorem dX1_fillPointCubes_9 : decode cX1_fillPointCubes 9 = .ok (.iload_n 1, 1) := by decide +kernel
theorem dX1_fillPointCubes_10 : decode cX1_fillPointCubes 10 = .ok (.aload_n 0, 1) := by decide +kernel
theorem dX1_fillPointCubes_11 : decode cX1_fillPointCubes 11 = .ok (.getfield 39, 3) := by decide +kernel
theorem dX1_fillPointCubes_14 : decode cX1_fillPointCubes 14 = .ok (.if_icmp .ge 60, 3) := by decide +kernel
theorem dX1_fillPointCubes_17 : decode cX1_fillPointCubes 17 = .ok (.iconst 1, 1) := by decide +kernel
theorem dX1_fillPointCubes_18 : decode cX1_fillPointCubes 18 = .ok (.iload_n 1, 1) := by decide +kernel
theorem dX1_fillPointCubes_19 : decode cX1_fillPointCubes 19 = .ok (.ishl, 1) := by decide +kernel
theorem dX1_fillPointCubes_20 : decode cX1_fillPointCubes 20 = .ok (.istore_n 2, 1) := by decide +kernel
theorem dX1_fillPointCubes_21 : decode cX1_fillPointCubes 21 = .ok (.iconst 0, 1) := by decide +kernel
theorem dX1_fillPointCubes_22 : decode cX1_fillPointCubes 22 = .ok (.istore_n 3, 1) := by decide +kernel
theorem dX1_fillPointCubes_23 : decode cX1_fillPointCubes 23 = .ok (.iload_n 3, 1) := by decide +kernel
theorem dX1_fillPointCubes_24 : decode cX1_fillPointCubes 24 = .ok (.iload_n 2, 1) := by decide +kernel
theorem dX1_fillPointCubes_25 : decode cX1_fillPointCubes 25 = .ok (.if_icmp .ge 43, 3) := by decide +kernel
theorem dX1_fillPointCubes_28 : decode cX1_fillPointCubes 28 = .ok (.aload_n 0, 1) := by decide +kernel
theorem dX1_fillPointCubes_29 : decode cX1_fillPointCubes 29 = .ok (.getfield 25, 3) := by decide +kernel
theorem dX1_fillPointCubes_32 : decode cX1_fillPointCubes 32 = .ok (.iload_n 3, 1) := by decide +kernel
theorem dX1_fillPointCubes_33 : decode cX1_fillPointCubes 33 = .ok (.iload_n 2, 1) := by decide +kernel
theorem dX1_fillPointCubes_34 : decode cX1_fillPointCubes 34 = .ok (.iadd, 1) := by decide +kernel
theorem dX1_fillPointCubes_35 : decode cX1_fillPointCubes 35 = .ok (.aload_n 0, 1) := by decide +kernel
theorem dX1_fillPointCubes_36 : decode cX1_fillPointCubes 36 = .ok (.getfield 25, 3) := by decide +kernel
theorem dX1_fillPointCubes_39 : decode cX1_fillPointCubes 39 = .ok (.iload_n 3, 1) := by decide +kernel
theorem dX1_fillPointCubes_40 : decode cX1_fillPointCubes 40 = .ok (.iaload, 1) := by decide +kernel
theorem dX1_fillPointCubes_41 : decode cX1_fillPointCubes 41 = .ok (.iconst 2, 1) := by decide +kernel
theorem dX1_fillPointCubes_42 : decode cX1_fillPointCubes 42 = .ok (.iconst 2, 1) := by decide +kernel
theorem dX1_fillPointCubes_43 : decode cX1_fillPointCubes 43 = .ok (.iload_n 1, 1) := by decide +kernel
theorem dX1_fillPointCubes_44 : decode cX1_fillPointCubes 44 = .ok (.imul, 1) := by decide +kernel
theorem dX1_fillPointCubes_45 : decode cX1_fillPointCubes 45 = .ok (.ishl, 1) := by decide +kernel
theorem dX1_fillPointCubes_46 : decode cX1_fillPointCubes 46 = .ok (.ior, 1) := by decide +kernel
theorem dX1_fillPointCubes_47 : decode cX1_fillPointCubes 47 = .ok (.iastore, 1) := by decide +kernel
theorem dX1_fillPointCubes_48 : decode cX1_fillPointCubes 48 = .ok (.aload_n 0, 1) := by decide +kernel
theorem dX1_fillPointCubes_49 : decode cX1_fillPointCubes 49 = .ok (.getfield 25, 3) := by decide +kernel
theorem dX1_fillPointCubes_52 : decode cX1_fillPointCubes 52 = .ok (.iload_n 3, 1) := by decide +kernel
theorem dX1_fillPointCubes_53 : decode cX1_fillPointCubes 53 = .ok (.dup2, 1) := by decide +kernel
theorem dX1_fillPointCubes_54 : decode cX1_fillPointCubes 54 = .ok (.iaload, 1) := by decide +kernel
theorem dX1_fillPointCubes_55 : decode cX1_fillPointCubes 55 = .ok (.iconst 1, 1) := by decide +kernel
theorem dX1_fillPointCubes_56 : decode cX1_fillPointCubes 56 = .ok (.iconst 2, 1) := by decide +kernel
theorem dX1_fillPointCubes_57 : decode cX1_fillPointCubes 57 = .ok (.iload_n 1, 1) := by decide +kernel
theorem dX1_fillPointCubes_58 : decode cX1_fillPointCubes 58 = .ok (.imul, 1) := by decide +kernel
theorem dX1_fillPointCubes_59 : decode cX1_fillPointCubes 59 = .ok (.ishl, 1) := by decide +kernel
theorem dX1_fillPointCubes_60 : decode cX1_fillPointCubes 60 = .ok (.ior, 1) := by decide +kernel
theorem dX1_fillPointCubes_61 : decode cX1_fillPointCubes 61 = .ok (.iastore, 1) := by decide +kernel
theorem dX1_fillPointCubes_62 : decode cX1_fillPointCubes 62 = .ok (.iinc 3 1, 3) := by decide +kernel
theorem dX1_fillPointCubes_65 : decode cX1_fillPointCubes 65 = .ok (.goto (-42), 3) := by decide +kernel
theorem dX1_fillPointCubes_68 : decode cX1_fillPointCubes 68 = .ok (.iinc 1 1, 3) := by decide +kernel
theorem dX1_fillPointCubes_71 : decode cX1_fillPointCubes 71 = .ok (.goto (-62), 3) := by decide +kernel
theorem dX1_fillPointCubes_74 : decode cX1_fillPointCubes 74 = .ok (.return_, 1) := by decide +kernel
theorem dX1_pointCount_0 : decode cX1_pointCount 0 = .ok (.iconst 1, 1) := by decide +kernel
theorem dX1_pointCount_1 : decode cX1_pointCount 1 = .ok (.aload_n 0, 1) := by decide +kernel
theorem dX1_pointCount_2 : decode cX1_pointCount 2 = .ok (.getfield 39, 3) := by decide +kernel
theorem dX1_pointCount_5 : decode cX1_pointCount 5 = .ok (.ishl, 1) := by decide +kernel
theorem dX1_pointCount_6 : decode cX1_pointCount 6 = .ok (.ireturn, 1) := by decide +kernel
set_option maxRecDepth 20000 in
theorem ggX1_isPoint_X1_pointCount : GoodIn wsX1_isPoint wsX1_pointCount := goodIn_r _ [5, 6, 7, 8, 9, 10, 11, 12, 13, 14] (by decide +kernel) (by decide +kernel)
set_option maxRecDepth 20000 in
theorem gX1_isPoint_X1_pointCount : GoodIn wsX1_isPoint (wsV RX1 122 RX1 yX1_pointCount wsX1_pointCount) := goodIn_app (goodIn_of _ (by decide +kernel)) ggX1_isPoint_X1_pointCount
theorem dX1_isPoint_0 : decode cX1_isPoint 0 = .ok (.iload_n 1, 1) := by decide +kernel
theorem dX1_isPoint_1 : decode cX1_isPoint 1 = .ok (.ifCond .lt 15, 3) := by decide +kernel
theorem dX1_isPoint_4 : decode cX1_isPoint 4 = .ok (.iload_n 1, 1) := by decide +kernel
theorem dX1_isPoint_5 : decode cX1_isPoint 5 = .ok (.aload_n 0, 1) := by decide +kernel
theorem dX1_isPoint_6 : decode cX1_isPoint 6 = .ok (.invokevirtual 122, 3) := by decide +kernel
theorem dX1_isPoint_9 : decode cX1_isPoint 9 = .ok (.if_icmp .ge 7, 3) := by decide +kernel
theorem dX1_isPoint_12 : decode cX1_isPoint 12 = .ok (.iconst 1, 1) := by decide +kernel
theorem dX1_isPoint_13 : decode cX1_isPoint 13 = .ok (.goto 4, 3) := by decide +kernel
theorem dX1_isPoint_16 : decode cX1_isPoint 16 = .ok (.iconst 0, 1) := by decide +kernel
theorem dX1_isPoint_17 : decode cX1_isPoint 17 = .ok (.ireturn, 1) := by decide +kernel
theorem dX1_isCube_0 : decode cX1_isCube 0 = .ok (.iload_n 1, 1) := by decide +kernel
theorem dX1_isCube_1 : decode cX1_isCube 1 = .ok (.ifCond .lt 19, 3) := by decide +kernel
theorem dX1_isCube_4 : decode cX1_isCube 4 = .ok (.iload_n 1, 1) := by decide +kernel
theorem dX1_isCube_5 : decode cX1_isCube 5 = .ok (.iconst 1, 1) := by decide +kernel
theorem dX1_isCube_6 : decode cX1_isCube 6 = .ok (.iconst 2, 1) := by decide +kernel
theorem dX1_isCube_7 : decode cX1_isCube 7 = .ok (.aload_n 0, 1) := by decide +kernel
theorem dX1_isCube_8 : decode cX1_isCube 8 = .ok (.getfield 39, 3) := by decide +kernel
theorem dX1_isCube_11 : decode cX1_isCube 11 = .ok (.imul, 1) := by decide +kernel
theorem dX1_isCube_12 : decode cX1_isCube 12 = .ok (.ishl, 1) := by decide +kernel
theorem dX1_isCube_13 : decode cX1_isCube 13 = .ok (.if_icmp .ge 7, 3) := by decide +kernel
theorem dX1_isCube_16 : decode cX1_isCube 16 = .ok (.iconst 1, 1) := by decide +kernel
theorem dX1_isCube_17 : decode cX1_isCube 17 = .ok (.goto 4, 3) := by decide +kernel
theorem dX1_isCube_20 : decode cX1_isCube 20 = .ok (.iconst 0, 1) := by decide +kernel
theorem dX1_isCube_21 : decode cX1_isCube 21 = .ok (.ireturn, 1) := by decide +kernel
theorem dX1_listAt_0 : decode cX1_listAt 0 = .ok (.iload_n 1, 1) := by decide +kernel
theorem dX1_listAt_1 : decode cX1_listAt 1 = .ok (.tableswitch 42 0 2 #[27, 32, 37], 27) := by decide +kernel
theorem dX1_listAt_28 : decode cX1_listAt 28 = .ok (.aload_n 0, 1) := by decide +kernel
theorem dX1_listAt_29 : decode cX1_listAt 29 = .ok (.getfield 12, 3) := by decide +kernel
theorem dX1_listAt_32 : decode cX1_listAt 32 = .ok (.areturn, 1) := by decide +kernel
theorem dX1_listAt_33 : decode cX1_listAt 33 = .ok (.aload_n 0, 1) := by decide +kernel
theorem dX1_listAt_34 : decode cX1_listAt 34 = .ok (.getfield 16, 3) := by decide +kernel
theorem dX1_listAt_37 : decode cX1_listAt 37 = .ok (.areturn, 1) := by decide +kernel
theorem dX1_listAt_38 : decode cX1_listAt 38 = .ok (.aload_n 0, 1) := by decide +kernel
theorem dX1_listAt_39 : decode cX1_listAt 39 = .ok (.getfield 19, 3) := by decide +kernel
theorem dX1_listAt_42 : decode cX1_listAt 42 = .ok (.areturn, 1) := by decide +kernel
theorem dX1_listAt_43 : decode cX1_listAt 43 = .ok (.aconst_null, 1) := by decide +kernel
theorem dX1_listAt_44 : decode cX1_listAt 44 = .ok (.areturn, 1) := by decide +kernel
theorem dX1_freed_0 : decode cX1_freed 0 = .ok (.iload_n 0, 1) := by decide +kernel
theorem dX1_freed_1 : decode cX1_freed 1 = .ok (.iconst 3, 1) := by decide +kernel
theorem dX1_freed_2 : decode cX1_freed 2 = .ok (.iconst 2, 1) := by decide +kernel
theorem dX1_freed_3 : decode cX1_freed 3 = .ok (.iload_n 1, 1) := by decide +kernel
theorem dX1_freed_4 : decode cX1_freed 4 = .ok (.imul, 1) := by decide +kernel
theorem dX1_freed_5 : decode cX1_freed 5 = .ok (.ishl, 1) := by decide +kernel
theorem dX1_freed_6 : decode cX1_freed 6 = .ok (.ior, 1) := by decide +kernel
theorem dX1_freed_7 : decode cX1_freed 7 = .ok (.ireturn, 1) := by decide +kernel
theorem dX1_isVoid_0 : decode cX1_isVoid 0 = .ok (.iconst 0, 1) := by decide +kernel
theorem dX1_isVoid_1 : decode cX1_isVoid 1 = .ok (.istore_n 2, 1) := by decide +kernel
theorem dX1_isVoid_2 : decode cX1_isVoid 2 = .ok (.iload_n 2, 1) := by decide +kernel
theorem dX1_isVoid_3 : decode cX1_isVoid 3 = .ok (.aload_n 0, 1) := by decide +kernel
theorem dX1_isVoid_4 : decode cX1_isVoid 4 = .ok (.getfield 39, 3) := by decide +kernel
theorem dX1_isVoid_7 : decode cX1_isVoid 7 = .ok (.if_icmp .ge 21, 3) := by decide +kernel
theorem dX1_isVoid_10 : decode cX1_isVoid 10 = .ok (.iload_n 1, 1) := by decide +kernel
theorem dX1_isVoid_11 : decode cX1_isVoid 11 = .ok (.iconst 2, 1) := by decide +kernel
theorem dX1_isVoid_12 : decode cX1_isVoid 12 = .ok (.iload_n 2, 1) := by decide +kernel
theorem dX1_isVoid_13 : decode cX1_isVoid 13 = .ok (.imul, 1) := by decide +kernel
theorem dX1_isVoid_14 : decode cX1_isVoid 14 = .ok (.ishr, 1) := by decide +kernel
theorem dX1_isVoid_15 : decode cX1_isVoid 15 = .ok (.iconst 3, 1) := by decide +kernel
theorem dX1_isVoid_16 : decode cX1_isVoid 16 = .ok (.iand, 1) := by decide +kernel
theorem dX1_isVoid_17 : decode cX1_isVoid 17 = .ok (.ifCond .ne 5, 3) := by decide +kernel
theorem dX1_isVoid_20 : decode cX1_isVoid 20 = .ok (.iconst 1, 1) := by decide +kernel
theorem dX1_isVoid_21 : decode cX1_isVoid 21 = .ok (.ireturn, 1) := by decide +kernel
theorem dX1_isVoid_22 : decode cX1_isVoid 22 = .ok (.iinc 2 1, 3) := by decide +kernel
theorem dX1_isVoid_25 : decode cX1_isVoid 25 = .ok (.goto (-23), 3) := by decide +kernel
theorem dX1_isVoid_28 : decode cX1_isVoid 28 = .ok (.iconst 0, 1) := by decide +kernel
theorem dX1_isVoid_29 : decode cX1_isVoid 29 = .ok (.ireturn, 1) := by decide +kernel
theorem dX1_isInCube_0 : decode cX1_isInCube 0 = .ok (.aload_n 0, 1) := by decide +kernel
theorem dX1_isInCube_1 : decode cX1_isInCube 1 = .ok (.getfield 25, 3) := by decide +kernel
theorem dX1_isInCube_4 : decode cX1_isInCube 4 = .ok (.iload_n 2, 1) := by decide +kernel
theorem dX1_isInCube_5 : decode cX1_isInCube 5 = .ok (.iaload, 1) := by decide +kernel
theorem dX1_isInCube_6 : decode cX1_isInCube 6 = .ok (.iload_n 1, 1) := by decide +kernel
theorem dX1_isInCube_7 : decode cX1_isInCube 7 = .ok (.iconst (-1), 1) := by decide +kernel
theorem dX1_isInCube_8 : decode cX1_isInCube 8 = .ok (.ixor, 1) := by decide +kernel
theorem dX1_isInCube_9 : decode cX1_isInCube 9 = .ok (.iand, 1) := by decide +kernel
theorem dX1_isInCube_10 : decode cX1_isInCube 10 = .ok (.ifCond .ne 7, 3) := by decide +kernel
theorem dX1_isInCube_13 : decode cX1_isInCube 13 = .ok (.iconst 1, 1) := by decide +kernel
theorem dX1_isInCube_14 : decode cX1_isInCube 14 = .ok (.goto 4, 3) := by decide +kernel
theorem dX1_isInCube_17 : decode cX1_isInCube 17 = .ok (.iconst 0, 1) := by decide +kernel
theorem dX1_isInCube_18 : decode cX1_isInCube 18 = .ok (.ireturn, 1) := by decide +kernel
set_option maxRecDepth 20000 in
theorem ggX1_isInList_X0_length : GoodIn wsX1_isInList wsX0_length := goodIn_r _ [5, 6, 18, 19] (by decide +kernel) (by decide +kernel)
set_option maxRecDepth 20000 in
theorem gX1_isInList_X0_length : GoodIn wsX1_isInList (wsV RX1 63 RX0 yX0_length wsX0_length) := goodIn_app (goodIn_of _ (by decide +kernel)) ggX1_isInList_X0_length
set_option maxRecDepth 20000 in
theorem ggX1_isInList_X0_at : GoodIn wsX1_isInList wsX0_at := goodIn_r _ [10, 6, 11, 18, 19] (by decide +kernel) (by decide +kernel)
set_option maxRecDepth 20000 in
theorem gX1_isInList_X0_at : GoodIn wsX1_isInList (wsV RX1 67 RX0 yX0_at wsX0_at) := goodIn_app (goodIn_of _ (by decide +kernel)) ggX1_isInList_X0_at
set_option maxRecDepth 20000 in
theorem ggX1_isInList_X1_isInCube : GoodIn wsX1_isInList wsX1_isInCube := goodIn_r _ [16, 17, 20, 21, 22, 23, 24, 25, 26, 27] (by decide +kernel) (by decide +kernel)
set_option maxRecDepth 20000 in
theorem gX1_isInList_X1_isInCube : GoodIn wsX1_isInList (wsV RX1 125 RX1 yX1_isInCube wsX1_isInCube) := goodIn_app (goodIn_of _ (by decide +kernel)) ggX1_isInList_X1_isInCube
theorem dX1_isInList_0 : decode cX1_isInList 0 = .ok (.iconst 0, 1) := by decide +kernel
theorem dX1_isInList_1 : decode cX1_isInList 1 = .ok (.istore_n 3, 1) := by decide +kernel
theorem dX1_isInList_2 : decode cX1_isInList 2 = .ok (.iload_n 3, 1) := by decide +kernel
theorem dX1_isInList_3 : decode cX1_isInList 3 = .ok (.aload_n 1, 1) := by decide +kernel
theorem dX1_isInList_4 : decode cX1_isInList 4 = .ok (.invokevirtual 63, 3) := by decide +kernel
theorem dX1_isInList_7 : decode cX1_isInList 7 = .ok (.if_icmp .ge 24, 3) := by decide +kernel
theorem dX1_isInList_10 : decode cX1_isInList 10 = .ok (.aload_n 0, 1) := by decide +kernel
theorem dX1_isInList_11 : decode cX1_isInList 11 = .ok (.aload_n 1, 1) := by decide +kernel
theorem dX1_isInList_12 : decode cX1_isInList 12 = .ok (.iload_n 3, 1) := by decide +kernel
theorem dX1_isInList_13 : decode cX1_isInList 13 = .ok (.invokevirtual 67, 3) := by decide +kernel
theorem dX1_isInList_16 : decode cX1_isInList 16 = .ok (.iload_n 2, 1) := by decide +kernel
theorem dX1_isInList_17 : decode cX1_isInList 17 = .ok (.invokevirtual 125, 3) := by decide +kernel
theorem dX1_isInList_20 : decode cX1_isInList 20 = .ok (.ifCond .eq 5, 3) := by decide +kernel
theorem dX1_isInList_23 : decode cX1_isInList 23 = .ok (.iconst 1, 1) := by decide +kernel
theorem dX1_isInList_24 : decode cX1_isInList 24 = .ok (.ireturn, 1) := by decide +kernel
theorem dX1_isInList_25 : decode cX1_isInList 25 = .ok (.iinc 3 1, 3) := by decide +kernel
theorem dX1_isInList_28 : decode cX1_isInList 28 = .ok (.goto (-26), 3) := by decide +kernel
theorem dX1_isInList_31 : decode cX1_isInList 31 = .ok (.iconst 0, 1) := by decide +kernel
theorem dX1_isInList_32 : decode cX1_isInList 32 = .ok (.ireturn, 1) := by decide +kernel
set_option maxRecDepth 20000 in
theorem ggX1_markWanted_X1_pointCount : GoodIn wsX1_markWanted wsX1_pointCount := goodIn_r _ [6, 7, 13, 14, 15, 16, 17, 18, 19, 20] (by decide +kernel) (by decide +kernel)
set_option maxRecDepth 20000 in
theorem gX1_markWanted_X1_pointCount : GoodIn wsX1_markWanted (wsV RX1 122 RX1 yX1_pointCount wsX1_pointCount) := goodIn_app (goodIn_of _ (by decide +kernel)) ggX1_markWanted_X1_pointCount
set_option maxRecDepth 20000 in
theorem ggX1_markWanted_X1_isInCube : GoodIn wsX1_markWanted wsX1_isInCube := goodIn_r _ [11, 12, 13, 14, 15, 16, 17, 18, 19, 20] (by decide +kernel) (by decide +kernel)
set_option maxRecDepth 20000 in
theorem gX1_markWanted_X1_isInCube : GoodIn wsX1_markWanted (wsV RX1 125 RX1 yX1_isInCube wsX1_isInCube) := goodIn_app (goodIn_of _ (by decide +kernel)) ggX1_markWanted_X1_isInCube
theorem dX1_markWanted_0 : decode cX1_markWanted 0 = .ok (.aload_n 0, 1) := by decide +kernel
theorem dX1_markWanted_1 : decode cX1_markWanted 1 = .ok (.invokevirtual 122, 3) := by decide +kernel
theorem dX1_markWanted_4 : decode cX1_markWanted 4 = .ok (.istore_n 2, 1) := by decide +kernel
theorem dX1_markWanted_5 : decode cX1_markWanted 5 = .ok (.iconst 0, 1) := by decide +kernel
theorem dX1_markWanted_6 : decode cX1_markWanted 6 = .ok (.istore_n 3, 1) := by decide +kernel
theorem dX1_markWanted_7 : decode cX1_markWanted 7 = .ok (.iload_n 3, 1) := by decide +kernel
theorem dX1_markWanted_8 : decode cX1_markWanted 8 = .ok (.iload_n 2, 1) := by decide +kernel
theorem dX1_markWanted_9 : decode cX1_markWanted 9 = .ok (.if_icmp .ge 34, 3) := by decide +kernel
theorem dX1_markWanted_12 : decode cX1_markWanted 12 = .ok (.aload_n 0, 1) := by decide +kernel
theorem dX1_markWanted_13 : decode cX1_markWanted 13 = .ok (.getfield 29, 3) := by decide +kernel
theorem dX1_markWanted_16 : decode cX1_markWanted 16 = .ok (.iload_n 3, 1) := by decide +kernel
theorem dX1_markWanted_17 : decode cX1_markWanted 17 = .ok (.iaload, 1) := by decide +kernel
theorem dX1_markWanted_18 : decode cX1_markWanted 18 = .ok (.ifCond .ne 19, 3) := by decide +kernel
theorem dX1_markWanted_21 : decode cX1_markWanted 21 = .ok (.aload_n 0, 1) := by decide +kernel
theorem dX1_markWanted_22 : decode cX1_markWanted 22 = .ok (.iload_n 1, 1) := by decide +kernel
theorem dX1_markWanted_23 : decode cX1_markWanted 23 = .ok (.iload_n 3, 1) := by decide +kernel
theorem dX1_markWanted_24 : decode cX1_markWanted 24 = .ok (.invokevirtual 125, 3) := by decide +kernel
theorem dX1_markWanted_27 : decode cX1_markWanted 27 = .ok (.ifCond .eq 10, 3) := by decide +kernel
theorem dX1_markWanted_30 : decode cX1_markWanted 30 = .ok (.aload_n 0, 1) := by decide +kernel
theorem dX1_markWanted_31 : decode cX1_markWanted 31 = .ok (.getfield 29, 3) := by decide +kernel
theorem dX1_markWanted_34 : decode cX1_markWanted 34 = .ok (.iload_n 3, 1) := by decide +kernel
theorem dX1_markWanted_35 : decode cX1_markWanted 35 = .ok (.iconst 1, 1) := by decide +kernel
theorem dX1_markWanted_36 : decode cX1_markWanted 36 = .ok (.iastore, 1) := by decide +kernel
theorem dX1_markWanted_37 : decode cX1_markWanted 37 = .ok (.iinc 3 1, 3) := by decide +kernel
theorem dX1_markWanted_40 : decode cX1_markWanted 40 = .ok (.goto (-33), 3) := by decide +kernel
theorem dX1_markWanted_43 : decode cX1_markWanted 43 = .ok (.return_, 1) := by decide +kernel
set_option maxRecDepth 20000 in
theorem ggX1_markIndifferent_X1_pointCount : GoodIn wsX1_markIndifferent wsX1_pointCount := goodIn_r _ [6, 7, 13, 14, 15, 16, 17, 18, 19, 20] (by decide +kernel) (by decide +kernel)
set_option maxRecDepth 20000 in
theorem gX1_markIndifferent_X1_pointCount : GoodIn wsX1_markIndifferent (wsV RX1 122 RX1 yX1_pointCount wsX1_pointCount) := goodIn_app (goodIn_of _ (by decide +kernel)) ggX1_markIndifferent_X1_pointCount
set_option maxRecDepth 20000 in
theorem ggX1_markIndifferent_X1_isInCube : GoodIn wsX1_markIndifferent wsX1_isInCube := goodIn_r _ [11, 12, 13, 14, 15, 16, 17, 18, 19, 20] (by decide +kernel) (by decide +kernel)
set_option maxRecDepth 20000 in
theorem gX1_markIndifferent_X1_isInCube : GoodIn wsX1_markIndifferent (wsV RX1 125 RX1 yX1_isInCube wsX1_isInCube) := goodIn_app (goodIn_of _ (by decide +kernel)) ggX1_markIndifferent_X1_isInCube
theorem dX1_markIndifferent_0 : decode cX1_markIndifferent 0 = .ok (.aload_n 0, 1) := by decide +kernel
theorem dX1_markIndifferent_1 : decode cX1_markIndifferent 1 = .ok (.invokevirtual 122, 3) := by decide +kernel
theorem dX1_markIndifferent_4 : decode cX1_markIndifferent 4 = .ok (.istore_n 2, 1) := by decide +kernel
theorem dX1_markIndifferent_5 : decode cX1_markIndifferent 5 = .ok (.iconst 0, 1) := by decide +kernel
theorem dX1_markIndifferent_6 : decode cX1_markIndifferent 6 = .ok (.istore_n 3, 1) := by decide +kernel
theorem dX1_markIndifferent_7 : decode cX1_markIndifferent 7 = .ok (.iload_n 3, 1) := by decide +kernel
theorem dX1_markIndifferent_8 : decode cX1_markIndifferent 8 = .ok (.iload_n 2, 1) := by decide +kernel
theorem dX1_markIndifferent_9 : decode cX1_markIndifferent 9 = .ok (.if_icmp .ge 25, 3) := by decide +kernel
theorem dX1_markIndifferent_12 : decode cX1_markIndifferent 12 = .ok (.aload_n 0, 1) := by decide +kernel
theorem dX1_markIndifferent_13 : decode cX1_markIndifferent 13 = .ok (.iload_n 1, 1) := by decide +kernel
theorem dX1_markIndifferent_14 : decode cX1_markIndifferent 14 = .ok (.iload_n 3, 1) := by decide +kernel
theorem dX1_markIndifferent_15 : decode cX1_markIndifferent 15 = .ok (.invokevirtual 125, 3) := by decide +kernel
theorem dX1_markIndifferent_18 : decode cX1_markIndifferent 18 = .ok (.ifCond .eq 10, 3) := by decide +kernel
theorem dX1_markIndifferent_21 : decode cX1_markIndifferent 21 = .ok (.aload_n 0, 1) := by decide +kernel
theorem dX1_markIndifferent_22 : decode cX1_markIndifferent 22 = .ok (.getfield 29, 3) := by decide +kernel
theorem dX1_markIndifferent_25 : decode cX1_markIndifferent 25 = .ok (.iload_n 3, 1) := by decide +kernel
theorem dX1_markIndifferent_26 : decode cX1_markIndifferent 26 = .ok (.iconst 2, 1) := by decide +kernel
theorem dX1_markIndifferent_27 : decode cX1_markIndifferent 27 = .ok (.iastore, 1) := by decide +kernel
theorem dX1_markIndifferent_28 : decode cX1_markIndifferent 28 = .ok (.iinc 3 1, 3) := by decide +kernel
theorem dX1_markIndifferent_31 : decode cX1_markIndifferent 31 = .ok (.goto (-24), 3) := by decide +kernel
theorem dX1_markIndifferent_34 : decode cX1_markIndifferent 34 = .ok (.return_, 1) := by decide +kernel
set_option maxRecDepth 20000 in
theorem ggX1_countLiterals_X0_length : GoodIn wsX1_countLiterals wsX0_length := goodIn_r _ [6, 7, 25, 26] (by decide +kernel) (by decide +kernel)
set_option maxRecDepth 20000 in
theorem gX1_countLiterals_X0_length : GoodIn wsX1_countLiterals (wsV RX1 63 RX0 yX0_length wsX0_length) := goodIn_app (goodIn_of _ (by decide +kernel)) ggX1_countLiterals_X0_length
set_option maxRecDepth 20000 in
theorem ggX1_countLiterals_X0_at : GoodIn wsX1_countLiterals wsX0_at := goodIn_r _ [11, 7, 12, 25, 26] (by decide +kernel) (by decide +kernel)
set_option maxRecDepth 20000 in
theorem gX1_countLiterals_X0_at : GoodIn wsX1_countLiterals (wsV RX1 67 RX0 yX0_at wsX0_at) := goodIn_app (goodIn_of _ (by decide +kernel)) ggX1_countLiterals_X0_at
set_option maxRecDepth 20000 in
theorem ggX1_countLiterals_X1_freed : GoodIn wsX1_countLiterals wsX1_freed := goodIn_r _ [16] (by decide +kernel) (by decide +kernel)
set_option maxRecDepth 20000 in
theorem gX1_countLiterals_X1_freed : GoodIn wsX1_countLiterals (va_wsS RX1 129 yX1_freed wsX1_freed) := goodIn_app (goodIn_of _ (by decide +kernel)) ggX1_countLiterals_X1_freed
theorem dX1_countLiterals_0 : decode cX1_countLiterals 0 = .ok (.iconst 0, 1) := by decide +kernel
theorem dX1_countLiterals_1 : decode cX1_countLiterals 1 = .ok (.istore_n 2, 1) := by decide +kernel
theorem dX1_countLiterals_2 : decode cX1_countLiterals 2 = .ok (.iconst 0, 1) := by decide +kernel
theorem dX1_countLiterals_3 : decode cX1_countLiterals 3 = .ok (.istore_n 3, 1) := by decide +kernel
theorem dX1_countLiterals_4 : decode cX1_countLiterals 4 = .ok (.iload_n 3, 1) := by decide +kernel
theorem dX1_countLiterals_5 : decode cX1_countLiterals 5 = .ok (.aload_n 1, 1) := by decide +kernel
theorem dX1_countLiterals_6 : decode cX1_countLiterals 6 = .ok (.invokevirtual 63, 3) := by decide +kernel
theorem dX1_countLiterals_9 : decode cX1_countLiterals 9 = .ok (.if_icmp .ge 49, 3) := by decide +kernel
theorem dX1_countLiterals_12 : decode cX1_countLiterals 12 = .ok (.aload_n 1, 1) := by decide +kernel
theorem dX1_countLiterals_13 : decode cX1_countLiterals 13 = .ok (.iload_n 3, 1) := by decide +kernel
theorem dX1_countLiterals_14 : decode cX1_countLiterals 14 = .ok (.invokevirtual 67, 3) := by decide +kernel
theorem dX1_countLiterals_17 : decode cX1_countLiterals 17 = .ok (.istore 4, 2) := by decide +kernel
theorem dX1_countLiterals_19 : decode cX1_countLiterals 19 = .ok (.iconst 0, 1) := by decide +kernel
theorem dX1_countLiterals_20 : decode cX1_countLiterals 20 = .ok (.istore 5, 2) := by decide +kernel
theorem dX1_countLiterals_22 : decode cX1_countLiterals 22 = .ok (.iload 5, 2) := by decide +kernel
theorem dX1_countLiterals_24 : decode cX1_countLiterals 24 = .ok (.aload_n 0, 1) := by decide +kernel
theorem dX1_countLiterals_25 : decode cX1_countLiterals 25 = .ok (.getfield 39, 3) := by decide +kernel
theorem dX1_countLiterals_28 : decode cX1_countLiterals 28 = .ok (.if_icmp .ge 24, 3) := by decide +kernel
theorem dX1_countLiterals_31 : decode cX1_countLiterals 31 = .ok (.iload 4, 2) := by decide +kernel
theorem dX1_countLiterals_33 : decode cX1_countLiterals 33 = .ok (.iload 5, 2) := by decide +kernel
theorem dX1_countLiterals_35 : decode cX1_countLiterals 35 = .ok (.invokestatic 129, 3) := by decide +kernel
theorem dX1_countLiterals_38 : decode cX1_countLiterals 38 = .ok (.iload 4, 2) := by decide +kernel
theorem dX1_countLiterals_40 : decode cX1_countLiterals 40 = .ok (.if_icmp .eq 6, 3) := by decide +kernel
theorem dX1_countLiterals_43 : decode cX1_countLiterals 43 = .ok (.iinc 2 1, 3) := by decide +kernel
theorem dX1_countLiterals_46 : decode cX1_countLiterals 46 = .ok (.iinc 5 1, 3) := by decide +kernel
theorem dX1_countLiterals_49 : decode cX1_countLiterals 49 = .ok (.goto (-27), 3) := by decide +kernel
theorem dX1_countLiterals_52 : decode cX1_countLiterals 52 = .ok (.iinc 3 1, 3) := by decide +kernel
theorem dX1_countLiterals_55 : decode cX1_countLiterals 55 = .ok (.goto (-51), 3) := by decide +kernel
theorem dX1_countLiterals_58 : decode cX1_countLiterals 58 = .ok (.iload_n 2, 1) := by decide +kernel
theorem dX1_countLiterals_59 : decode cX1_countLiterals 59 = .ok (.ireturn, 1) := by decide +kernel
set_option maxRecDepth 20000 in
theorem ggX1_countMissing_X1_pointCount : GoodIn wsX1_countMissing wsX1_pointCount := goodIn_r _ [5, 6, 27, 28, 29, 30, 31, 32, 33, 34] (by decide +kernel) (by decide +kernel)
set_option maxRecDepth 20000 in
theorem gX1_countMissing_X1_pointCount : GoodIn wsX1_countMissing (wsV RX1 122 RX1 yX1_pointCount wsX1_pointCount) := goodIn_app (goodIn_of _ (by decide +kernel)) ggX1_countMissing_X1_pointCount
set_option maxRecDepth 20000 in
theorem ggX1_countMissing_X1_isInList : GoodIn wsX1_countMissing wsX1_isInList := goodIn_r _ [10, 11, 12, 13, 14, 15, 16, 17, 18, 19, 20, 21, 22, 23, 24, 4, 25, 26, 35, 36, 27, 28, 29, 30, 31, 32, 33, 34] (by decide +kernel) (by decide +kernel)
set_option maxRecDepth 20000 in
theorem gX1_countMissing_X1_isInList : GoodIn wsX1_countMissing (wsV RX1 78 RX1 yX1_isInList wsX1_isInList) := goodIn_app (goodIn_of _ (by decide +kernel)) ggX1_countMissing_X1_isInList
theorem dX1_countMissing_0 : decode cX1_countMissing 0 = .ok (.aload_n 0, 1) := by decide +kernel
theorem dX1_countMissing_1 : decode cX1_countMissing 1 = .ok (.invokevirtual 122, 3) := by decide +kernel
theorem dX1_countMissing_4 : decode cX1_countMissing 4 = .ok (.istore_n 2, 1) := by decide +kernel
theorem dX1_countMissing_5 : decode cX1_countMissing 5 = .ok (.iconst 0, 1) := by decide +kernel
theorem dX1_countMissing_6 : decode cX1_countMissing 6 = .ok (.istore_n 3, 1) := by decide +kernel
theorem dX1_countMissing_7 : decode cX1_countMissing 7 = .ok (.iconst 0, 1) := by decide +kernel
theorem dX1_countMissing_8 : decode cX1_countMissing 8 = .ok (.istore 4, 2) := by decide +kernel
theorem dX1_countMissing_10 : decode cX1_countMissing 10 = .ok (.iload 4, 2) := by decide +kernel
theorem dX1_countMissing_12 : decode cX1_countMissing 12 = .ok (.iload_n 2, 1) := by decide +kernel
theorem dX1_countMissing_13 : decode cX1_countMissing 13 = .ok (.if_icmp .ge 22, 3) := by decide +kernel
theorem dX1_countMissing_16 : decode cX1_countMissing 16 = .ok (.aload_n 0, 1) := by decide +kernel
theorem dX1_countMissing_17 : decode cX1_countMissing 17 = .ok (.aload_n 1, 1) := by decide +kernel
theorem dX1_countMissing_18 : decode cX1_countMissing 18 = .ok (.iload 4, 2) := by decide +kernel
theorem dX1_countMissing_20 : decode cX1_countMissing 20 = .ok (.invokevirtual 78, 3) := by decide +kernel
theorem dX1_countMissing_23 : decode cX1_countMissing 23 = .ok (.ifCond .ne 6, 3) := by decide +kernel
theorem dX1_countMissing_26 : decode cX1_countMissing 26 = .ok (.iinc 3 1, 3) := by decide +kernel
theorem dX1_countMissing_29 : decode cX1_countMissing 29 = .ok (.iinc 4 1, 3) := by decide +kernel
theorem dX1_countMissing_32 : decode cX1_countMissing 32 = .ok (.goto (-22), 3) := by decide +kernel
theorem dX1_countMissing_35 : decode cX1_countMissing 35 = .ok (.iload_n 3, 1) := by decide +kernel
theorem dX1_countMissing_36 : decode cX1_countMissing 36 = .ok (.ireturn, 1) := by decide +kernel
set_option maxRecDepth 20000 in
theorem ggX1_agree_X1_pointCount : GoodIn wsX1_agree wsX1_pointCount := goodIn_r _ [6, 7, 28, 29, 30, 31, 32, 33, 34, 35] (by decide +kernel) (by decide +kernel)
set_option maxRecDepth 20000 in
theorem gX1_agree_X1_pointCount : GoodIn wsX1_agree (wsV RX1 122 RX1 yX1_pointCount wsX1_pointCount) := goodIn_app (goodIn_of _ (by decide +kernel)) ggX1_agree_X1_pointCount
set_option maxRecDepth 20000 in
theorem ggX1_agree_X1_isInList : GoodIn wsX1_agree wsX1_isInList := goodIn_r _ [11, 12, 13, 14, 15, 16, 17, 18, 19, 20, 21, 22, 23, 24, 25, 5, 26, 27, 36, 37, 28, 29, 30, 31, 32, 33, 34, 35] (by decide +kernel) (by decide +kernel)
set_option maxRecDepth 20000 in
theorem gX1_agree_X1_isInList : GoodIn wsX1_agree (wsV RX1 78 RX1 yX1_isInList wsX1_isInList) := goodIn_app (goodIn_of _ (by decide +kernel)) ggX1_agree_X1_isInList
theorem dX1_agree_0 : decode cX1_agree 0 = .ok (.aload_n 0, 1) := by decide +kernel
theorem dX1_agree_1 : decode cX1_agree 1 = .ok (.invokevirtual 122, 3) := by decide +kernel
theorem dX1_agree_4 : decode cX1_agree 4 = .ok (.istore_n 3, 1) := by decide +kernel
theorem dX1_agree_5 : decode cX1_agree 5 = .ok (.iconst 0, 1) := by decide +kernel
theorem dX1_agree_6 : decode cX1_agree 6 = .ok (.istore 4, 2) := by decide +kernel
theorem dX1_agree_8 : decode cX1_agree 8 = .ok (.iload 4, 2) := by decide +kernel
theorem dX1_agree_10 : decode cX1_agree 10 = .ok (.iload_n 3, 1) := by decide +kernel
theorem dX1_agree_11 : decode cX1_agree 11 = .ok (.if_icmp .ge 39, 3) := by decide +kernel
theorem dX1_agree_14 : decode cX1_agree 14 = .ok (.aload_n 0, 1) := by decide +kernel
theorem dX1_agree_15 : decode cX1_agree 15 = .ok (.getfield 29, 3) := by decide +kernel
theorem dX1_agree_18 : decode cX1_agree 18 = .ok (.iload 4, 2) := by decide +kernel
theorem dX1_agree_20 : decode cX1_agree 20 = .ok (.iaload, 1) := by decide +kernel
theorem dX1_agree_21 : decode cX1_agree 21 = .ok (.iconst 2, 1) := by decide +kernel
theorem dX1_agree_22 : decode cX1_agree 22 = .ok (.if_icmp .eq 22, 3) := by decide +kernel
theorem dX1_agree_25 : decode cX1_agree 25 = .ok (.aload_n 0, 1) := by decide +kernel
theorem dX1_agree_26 : decode cX1_agree 26 = .ok (.aload_n 1, 1) := by decide +kernel
theorem dX1_agree_27 : decode cX1_agree 27 = .ok (.iload 4, 2) := by decide +kernel
theorem dX1_agree_29 : decode cX1_agree 29 = .ok (.invokevirtual 78, 3) := by decide +kernel
theorem dX1_agree_32 : decode cX1_agree 32 = .ok (.aload_n 0, 1) := by decide +kernel
theorem dX1_agree_33 : decode cX1_agree 33 = .ok (.aload_n 2, 1) := by decide +kernel
theorem dX1_agree_34 : decode cX1_agree 34 = .ok (.iload 4, 2) := by decide +kernel
theorem dX1_agree_36 : decode cX1_agree 36 = .ok (.invokevirtual 78, 3) := by decide +kernel
theorem dX1_agree_39 : decode cX1_agree 39 = .ok (.if_icmp .eq 5, 3) := by decide +kernel
theorem dX1_agree_42 : decode cX1_agree 42 = .ok (.iconst 0, 1) := by decide +kernel
theorem dX1_agree_43 : decode cX1_agree 43 = .ok (.ireturn, 1) := by decide +kernel
theorem dX1_agree_44 : decode cX1_agree 44 = .ok (.iinc 4 1, 3) := by decide +kernel
theorem dX1_agree_47 : decode cX1_agree 47 = .ok (.goto (-39), 3) := by decide +kernel
theorem dX1_agree_50 : decode cX1_agree 50 = .ok (.iconst 1, 1) := by decide +kernel
theorem dX1_agree_51 : decode cX1_agree 51 = .ok (.ireturn, 1) := by decide +kernel
set_option maxRecDepth 20000 in
theorem ggX1_touches_X1_pointCount : GoodIn wsX1_touches wsX1_pointCount := goodIn_r _ [6, 7, 13, 14, 15, 16, 17, 18, 19, 20] (by decide +kernel) (by decide +kernel)
set_option maxRecDepth 20000 in
theorem gX1_touches_X1_pointCount : GoodIn wsX1_touches (wsV RX1 122 RX1 yX1_pointCount wsX1_pointCount) := goodIn_app (goodIn_of _ (by decide +kernel)) ggX1_touches_X1_pointCount
set_option maxRecDepth 20000 in
theorem ggX1_touches_X1_isInCube : GoodIn wsX1_touches wsX1_isInCube := goodIn_r _ [11, 12, 13, 14, 15, 16, 17, 18, 19, 20] (by decide +kernel) (by decide +kernel)
set_option maxRecDepth 20000 in
theorem gX1_touches_X1_isInCube : GoodIn wsX1_touches (wsV RX1 125 RX1 yX1_isInCube wsX1_isInCube) := goodIn_app (goodIn_of _ (by decide +kernel)) ggX1_touches_X1_isInCube
theorem dX1_touches_0 : decode cX1_touches 0 = .ok (.aload_n 0, 1) := by decide +kernel
theorem dX1_touches_1 : decode cX1_touches 1 = .ok (.invokevirtual 122, 3) := by decide +kernel
theorem dX1_touches_4 : decode cX1_touches 4 = .ok (.istore_n 2, 1) := by decide +kernel
theorem dX1_touches_5 : decode cX1_touches 5 = .ok (.iconst 0, 1) := by decide +kernel
theorem dX1_touches_6 : decode cX1_touches 6 = .ok (.istore_n 3, 1) := by decide +kernel
theorem dX1_touches_7 : decode cX1_touches 7 = .ok (.iload_n 3, 1) := by decide +kernel
theorem dX1_touches_8 : decode cX1_touches 8 = .ok (.iload_n 2, 1) := by decide +kernel
theorem dX1_touches_9 : decode cX1_touches 9 = .ok (.if_icmp .ge 29, 3) := by decide +kernel
theorem dX1_touches_12 : decode cX1_touches 12 = .ok (.aload_n 0, 1) := by decide +kernel
theorem dX1_touches_13 : decode cX1_touches 13 = .ok (.getfield 29, 3) := by decide +kernel
theorem dX1_touches_16 : decode cX1_touches 16 = .ok (.iload_n 3, 1) := by decide +kernel
theorem dX1_touches_17 : decode cX1_touches 17 = .ok (.iaload, 1) := by decide +kernel
theorem dX1_touches_18 : decode cX1_touches 18 = .ok (.ifCond .ne 14, 3) := by decide +kernel
theorem dX1_touches_21 : decode cX1_touches 21 = .ok (.aload_n 0, 1) := by decide +kernel
theorem dX1_touches_22 : decode cX1_touches 22 = .ok (.iload_n 1, 1) := by decide +kernel
theorem dX1_touches_23 : decode cX1_touches 23 = .ok (.iload_n 3, 1) := by decide +kernel
theorem dX1_touches_24 : decode cX1_touches 24 = .ok (.invokevirtual 125, 3) := by decide +kernel
theorem dX1_touches_27 : decode cX1_touches 27 = .ok (.ifCond .eq 5, 3) := by decide +kernel
theorem dX1_touches_30 : decode cX1_touches 30 = .ok (.iconst 1, 1) := by decide +kernel
theorem dX1_touches_31 : decode cX1_touches 31 = .ok (.ireturn, 1) := by decide +kernel
theorem dX1_touches_32 : decode cX1_touches 32 = .ok (.iinc 3 1, 3) := by decide +kernel
theorem dX1_touches_35 : decode cX1_touches 35 = .ok (.goto (-28), 3) := by decide +kernel
theorem dX1_touches_38 : decode cX1_touches 38 = .ok (.iconst 0, 1) := by decide +kernel
theorem dX1_touches_39 : decode cX1_touches 39 = .ok (.ireturn, 1) := by decide +kernel
set_option maxRecDepth 20000 in
theorem ggX1_cannotGrow_X1_freed : GoodIn wsX1_cannotGrow wsX1_freed := goodIn_r _ [5] (by decide +kernel) (by decide +kernel)
set_option maxRecDepth 20000 in
theorem gX1_cannotGrow_X1_freed : GoodIn wsX1_cannotGrow (va_wsS RX1 129 yX1_freed wsX1_freed) := goodIn_app (goodIn_of _ (by decide +kernel)) ggX1_cannotGrow_X1_freed
set_option maxRecDepth 20000 in
theorem ggX1_cannotGrow_X1_touches : GoodIn wsX1_cannotGrow wsX1_touches := goodIn_r _ [9, 10, 11, 12, 13, 4, 14, 1, 15, 16, 17, 18, 19, 20, 21, 22, 23, 24, 25, 26, 27] (by decide +kernel) (by decide +kernel)
set_option maxRecDepth 20000 in
theorem gX1_cannotGrow_X1_touches : GoodIn wsX1_cannotGrow (wsV RX1 92 RX1 yX1_touches wsX1_touches) := goodIn_app (goodIn_of _ (by decide +kernel)) ggX1_cannotGrow_X1_touches
theorem dX1_cannotGrow_0 : decode cX1_cannotGrow 0 = .ok (.iconst 0, 1) := by decide +kernel
theorem dX1_cannotGrow_1 : decode cX1_cannotGrow 1 = .ok (.istore_n 2, 1) := by decide +kernel
theorem dX1_cannotGrow_2 : decode cX1_cannotGrow 2 = .ok (.iload_n 2, 1) := by decide +kernel
theorem dX1_cannotGrow_3 : decode cX1_cannotGrow 3 = .ok (.aload_n 0, 1) := by decide +kernel
theorem dX1_cannotGrow_4 : decode cX1_cannotGrow 4 = .ok (.getfield 39, 3) := by decide +kernel
theorem dX1_cannotGrow_7 : decode cX1_cannotGrow 7 = .ok (.if_icmp .ge 30, 3) := by decide +kernel
theorem dX1_cannotGrow_10 : decode cX1_cannotGrow 10 = .ok (.iload_n 1, 1) := by decide +kernel
theorem dX1_cannotGrow_11 : decode cX1_cannotGrow 11 = .ok (.iload_n 2, 1) := by decide +kernel
theorem dX1_cannotGrow_12 : decode cX1_cannotGrow 12 = .ok (.invokestatic 129, 3) := by decide +kernel
theorem dX1_cannotGrow_15 : decode cX1_cannotGrow 15 = .ok (.istore_n 3, 1) := by decide +kernel
theorem dX1_cannotGrow_16 : decode cX1_cannotGrow 16 = .ok (.iload_n 3, 1) := by decide +kernel
theorem dX1_cannotGrow_17 : decode cX1_cannotGrow 17 = .ok (.iload_n 1, 1) := by decide +kernel
theorem dX1_cannotGrow_18 : decode cX1_cannotGrow 18 = .ok (.if_icmp .eq 13, 3) := by decide +kernel
theorem dX1_cannotGrow_21 : decode cX1_cannotGrow 21 = .ok (.aload_n 0, 1) := by decide +kernel
theorem dX1_cannotGrow_22 : decode cX1_cannotGrow 22 = .ok (.iload_n 3, 1) := by decide +kernel
theorem dX1_cannotGrow_23 : decode cX1_cannotGrow 23 = .ok (.invokevirtual 92, 3) := by decide +kernel
theorem dX1_cannotGrow_26 : decode cX1_cannotGrow 26 = .ok (.ifCond .ne 5, 3) := by decide +kernel
theorem dX1_cannotGrow_29 : decode cX1_cannotGrow 29 = .ok (.iconst 0, 1) := by decide +kernel
theorem dX1_cannotGrow_30 : decode cX1_cannotGrow 30 = .ok (.ireturn, 1) := by decide +kernel
theorem dX1_cannotGrow_31 : decode cX1_cannotGrow 31 = .ok (.iinc 2 1, 3) := by decide +kernel
theorem dX1_cannotGrow_34 : decode cX1_cannotGrow 34 = .ok (.goto (-32), 3) := by decide +kernel
theorem dX1_cannotGrow_37 : decode cX1_cannotGrow 37 = .ok (.iconst 1, 1) := by decide +kernel
theorem dX1_cannotGrow_38 : decode cX1_cannotGrow 38 = .ok (.ireturn, 1) := by decide +kernel
set_option maxRecDepth 20000 in
theorem ggX1_widened_X1_freed : GoodIn wsX1_widened wsX1_freed := goodIn_r _ [5] (by decide +kernel) (by decide +kernel)
set_option maxRecDepth 20000 in
theorem gX1_widened_X1_freed : GoodIn wsX1_widened (va_wsS RX1 129 yX1_freed wsX1_freed) := goodIn_app (goodIn_of _ (by decide +kernel)) ggX1_widened_X1_freed
set_option maxRecDepth 20000 in
theorem ggX1_widened_X1_touches : GoodIn wsX1_widened wsX1_touches := goodIn_r _ [9, 10, 11, 12, 13, 4, 14, 1, 15, 16, 17, 18, 19, 20, 21, 22, 23, 24, 25, 26, 27] (by decide +kernel) (by decide +kernel)
set_option maxRecDepth 20000 in
theorem gX1_widened_X1_touches : GoodIn wsX1_widened (wsV RX1 92 RX1 yX1_touches wsX1_touches) := goodIn_app (goodIn_of _ (by decide +kernel)) ggX1_widened_X1_touches
theorem dX1_widened_0 : decode cX1_widened 0 = .ok (.iload_n 1, 1) := by decide +kernel
theorem dX1_widened_1 : decode cX1_widened 1 = .ok (.istore_n 3, 1) := by decide +kernel
theorem dX1_widened_2 : decode cX1_widened 2 = .ok (.iconst 0, 1) := by decide +kernel
theorem dX1_widened_3 : decode cX1_widened 3 = .ok (.istore 4, 2) := by decide +kernel
theorem dX1_widened_5 : decode cX1_widened 5 = .ok (.iload 4, 2) := by decide +kernel
theorem dX1_widened_7 : decode cX1_widened 7 = .ok (.aload_n 0, 1) := by decide +kernel
theorem dX1_widened_8 : decode cX1_widened 8 = .ok (.getfield 39, 3) := by decide +kernel
theorem dX1_widened_11 : decode cX1_widened 11 = .ok (.if_icmp .ge 55, 3) := by decide +kernel
theorem dX1_widened_14 : decode cX1_widened 14 = .ok (.iload_n 2, 1) := by decide +kernel
theorem dX1_widened_15 : decode cX1_widened 15 = .ok (.ifCond .eq 8, 3) := by decide +kernel
theorem dX1_widened_18 : decode cX1_widened 18 = .ok (.iload 4, 2) := by decide +kernel
theorem dX1_widened_20 : decode cX1_widened 20 = .ok (.goto 12, 3) := by decide +kernel
theorem dX1_widened_23 : decode cX1_widened 23 = .ok (.aload_n 0, 1) := by decide +kernel
theorem dX1_widened_24 : decode cX1_widened 24 = .ok (.getfield 39, 3) := by decide +kernel
theorem dX1_widened_27 : decode cX1_widened 27 = .ok (.iconst 1, 1) := by decide +kernel
theorem dX1_widened_28 : decode cX1_widened 28 = .ok (.isub, 1) := by decide +kernel
theorem dX1_widened_29 : decode cX1_widened 29 = .ok (.iload 4, 2) := by decide +kernel
theorem dX1_widened_31 : decode cX1_widened 31 = .ok (.isub, 1) := by decide +kernel
theorem dX1_widened_32 : decode cX1_widened 32 = .ok (.istore 5, 2) := by decide +kernel
theorem dX1_widened_34 : decode cX1_widened 34 = .ok (.iload_n 3, 1) := by decide +kernel
theorem dX1_widened_35 : decode cX1_widened 35 = .ok (.iload 5, 2) := by decide +kernel
theorem dX1_widened_37 : decode cX1_widened 37 = .ok (.invokestatic 129, 3) := by decide +kernel
theorem dX1_widened_40 : decode cX1_widened 40 = .ok (.istore 6, 2) := by decide +kernel
theorem dX1_widened_42 : decode cX1_widened 42 = .ok (.iload 6, 2) := by decide +kernel
theorem dX1_widened_44 : decode cX1_widened 44 = .ok (.iload_n 3, 1) := by decide +kernel
theorem dX1_widened_45 : decode cX1_widened 45 = .ok (.if_icmp .eq 15, 3) := by decide +kernel
theorem dX1_widened_48 : decode cX1_widened 48 = .ok (.aload_n 0, 1) := by decide +kernel
theorem dX1_widened_49 : decode cX1_widened 49 = .ok (.iload 6, 2) := by decide +kernel
theorem dX1_widened_51 : decode cX1_widened 51 = .ok (.invokevirtual 92, 3) := by decide +kernel
theorem dX1_widened_54 : decode cX1_widened 54 = .ok (.ifCond .ne 6, 3) := by decide +kernel
theorem dX1_widened_57 : decode cX1_widened 57 = .ok (.iload 6, 2) := by decide +kernel
theorem dX1_widened_59 : decode cX1_widened 59 = .ok (.istore_n 3, 1) := by decide +kernel
theorem dX1_widened_60 : decode cX1_widened 60 = .ok (.iinc 4 1, 3) := by decide +kernel
theorem dX1_widened_63 : decode cX1_widened 63 = .ok (.goto (-58), 3) := by decide +kernel
theorem dX1_widened_66 : decode cX1_widened 66 = .ok (.iload_n 3, 1) := by decide +kernel
theorem dX1_widened_67 : decode cX1_widened 67 = .ok (.ireturn, 1) := by decide +kernel
set_option maxRecDepth 20000 in
theorem ggX1_fillCover_X0_clear : GoodIn wsX1_fillCover wsX0_clear := goodIn_r _ [7, 8, 36, 37] (by decide +kernel) (by decide +kernel)
set_option maxRecDepth 20000 in
theorem gX1_fillCover_X0_clear : GoodIn wsX1_fillCover (wsV RX1 53 RX0 yX0_clear wsX0_clear) := goodIn_app (goodIn_of _ (by decide +kernel)) ggX1_fillCover_X0_clear
set_option maxRecDepth 20000 in
theorem ggX1_fillCover_X0_length : GoodIn wsX1_fillCover wsX0_length := goodIn_r _ [12, 8, 36, 37] (by decide +kernel) (by decide +kernel)
set_option maxRecDepth 20000 in
theorem gX1_fillCover_X0_length : GoodIn wsX1_fillCover (wsV RX1 63 RX0 yX0_length wsX0_length) := goodIn_app (goodIn_of _ (by decide +kernel)) ggX1_fillCover_X0_length
set_option maxRecDepth 20000 in
theorem ggX1_fillCover_X0_at : GoodIn wsX1_fillCover wsX0_at := goodIn_r _ [16, 8, 17, 36, 37] (by decide +kernel) (by decide +kernel)
set_option maxRecDepth 20000 in
theorem gX1_fillCover_X0_at : GoodIn wsX1_fillCover (wsV RX1 67 RX0 yX0_at wsX0_at) := goodIn_app (goodIn_of _ (by decide +kernel)) ggX1_fillCover_X0_at
set_option maxRecDepth 20000 in
theorem ggX1_fillCover_X1_isVoid : GoodIn wsX1_fillCover wsX1_isVoid := goodIn_r _ [22, 23, 28, 29, 30, 31, 32, 33, 34, 35] (by decide +kernel) (by decide +kernel)
set_option maxRecDepth 20000 in
theorem gX1_fillCover_X1_isVoid : GoodIn wsX1_fillCover (wsV RX1 89 RX1 yX1_isVoid wsX1_isVoid) := goodIn_app (goodIn_of _ (by decide +kernel)) ggX1_fillCover_X1_isVoid
set_option maxRecDepth 20000 in
theorem ggX1_fillCover_X0_append : GoodIn wsX1_fillCover wsX0_append := goodIn_r _ [27, 8, 17, 36, 37] (by decide +kernel) (by decide +kernel)
set_option maxRecDepth 20000 in
theorem gX1_fillCover_X0_append : GoodIn wsX1_fillCover (wsV RX1 47 RX0 yX0_append wsX0_append) := goodIn_app (goodIn_of _ (by decide +kernel)) ggX1_fillCover_X0_append
theorem dX1_fillCover_0 : decode cX1_fillCover 0 = .ok (.aload_n 0, 1) := by decide +kernel
theorem dX1_fillCover_1 : decode cX1_fillCover 1 = .ok (.getfield 19, 3) := by decide +kernel
theorem dX1_fillCover_4 : decode cX1_fillCover 4 = .ok (.invokevirtual 53, 3) := by decide +kernel
theorem dX1_fillCover_7 : decode cX1_fillCover 7 = .ok (.iconst 0, 1) := by decide +kernel
theorem dX1_fillCover_8 : decode cX1_fillCover 8 = .ok (.istore_n 1, 1) := by decide +kernel
theorem dX1_fillCover_9 : decode cX1_fillCover 9 = .ok (.iload_n 1, 1) := by decide +kernel
theorem dX1_fillCover_10 : decode cX1_fillCover 10 = .ok (.aload_n 0, 1) := by decide +kernel
theorem dX1_fillCover_11 : decode cX1_fillCover 11 = .ok (.getfield 12, 3) := by decide +kernel
theorem dX1_fillCover_14 : decode cX1_fillCover 14 = .ok (.invokevirtual 63, 3) := by decide +kernel
theorem dX1_fillCover_17 : decode cX1_fillCover 17 = .ok (.if_icmp .ge 35, 3) := by decide +kernel
theorem dX1_fillCover_20 : decode cX1_fillCover 20 = .ok (.aload_n 0, 1) := by decide +kernel
theorem dX1_fillCover_21 : decode cX1_fillCover 21 = .ok (.getfield 12, 3) := by decide +kernel
theorem dX1_fillCover_24 : decode cX1_fillCover 24 = .ok (.iload_n 1, 1) := by decide +kernel
theorem dX1_fillCover_25 : decode cX1_fillCover 25 = .ok (.invokevirtual 67, 3) := by decide +kernel
theorem dX1_fillCover_28 : decode cX1_fillCover 28 = .ok (.istore_n 2, 1) := by decide +kernel
theorem dX1_fillCover_29 : decode cX1_fillCover 29 = .ok (.aload_n 0, 1) := by decide +kernel
theorem dX1_fillCover_30 : decode cX1_fillCover 30 = .ok (.iload_n 2, 1) := by decide +kernel
theorem dX1_fillCover_31 : decode cX1_fillCover 31 = .ok (.invokevirtual 89, 3) := by decide +kernel
theorem dX1_fillCover_34 : decode cX1_fillCover 34 = .ok (.ifCond .ne 12, 3) := by decide +kernel
theorem dX1_fillCover_37 : decode cX1_fillCover 37 = .ok (.aload_n 0, 1) := by decide +kernel
theorem dX1_fillCover_38 : decode cX1_fillCover 38 = .ok (.getfield 19, 3) := by decide +kernel
theorem dX1_fillCover_41 : decode cX1_fillCover 41 = .ok (.iload_n 2, 1) := by decide +kernel
theorem dX1_fillCover_42 : decode cX1_fillCover 42 = .ok (.invokevirtual 47, 3) := by decide +kernel
theorem dX1_fillCover_45 : decode cX1_fillCover 45 = .ok (.pop, 1) := by decide +kernel
theorem dX1_fillCover_46 : decode cX1_fillCover 46 = .ok (.iinc 1 1, 3) := by decide +kernel
theorem dX1_fillCover_49 : decode cX1_fillCover 49 = .ok (.goto (-40), 3) := by decide +kernel
theorem dX1_fillCover_52 : decode cX1_fillCover 52 = .ok (.return_, 1) := by decide +kernel
set_option maxRecDepth 20000 in
theorem ggX1_makePass_X0_length : GoodIn wsX1_makePass wsX0_length := goodIn_r _ [5, 6, 60, 61] (by decide +kernel) (by decide +kernel)
set_option maxRecDepth 20000 in
theorem gX1_makePass_X0_length : GoodIn wsX1_makePass (wsV RX1 63 RX0 yX0_length wsX0_length) := goodIn_app (goodIn_of _ (by decide +kernel)) ggX1_makePass_X0_length
set_option maxRecDepth 20000 in
theorem ggX1_makePass_X0_at : GoodIn wsX1_makePass wsX0_at := goodIn_r _ [10, 6, 11, 60, 61] (by decide +kernel) (by decide +kernel)
set_option maxRecDepth 20000 in
theorem gX1_makePass_X0_at : GoodIn wsX1_makePass (wsV RX1 67 RX0 yX0_at wsX0_at) := goodIn_app (goodIn_of _ (by decide +kernel)) ggX1_makePass_X0_at
set_option maxRecDepth 20000 in
theorem ggX1_makePass_X1_widened : GoodIn wsX1_makePass wsX1_widened := goodIn_r _ [16, 17, 18, 19, 15, 20, 21, 22, 23, 24, 25, 26, 27, 28, 29, 30, 31, 32, 33, 34, 62, 63, 64, 65, 66, 67, 68, 69] (by decide +kernel) (by decide +kernel)
set_option maxRecDepth 20000 in
theorem gX1_makePass_X1_widened : GoodIn wsX1_makePass (wsV RX1 98 RX1 yX1_widened wsX1_widened) := goodIn_app (goodIn_of _ (by decide +kernel)) ggX1_makePass_X1_widened
set_option maxRecDepth 20000 in
theorem ggX1_makePass_X0_put : GoodIn wsX1_makePass wsX0_put := goodIn_r _ [38, 6, 11, 60, 61] (by decide +kernel) (by decide +kernel)
set_option maxRecDepth 20000 in
theorem gX1_makePass_X0_put : GoodIn wsX1_makePass (wsV RX1 133 RX0 yX0_put wsX0_put) := goodIn_app (goodIn_of _ (by decide +kernel)) ggX1_makePass_X0_put
set_option maxRecDepth 20000 in
theorem ggX1_makePass_X1_dropNeedless : GoodIn wsX1_makePass wsX1_dropNeedless := goodIn_r _ [42, 43, 44, 45, 15, 46, 47, 1, 2, 3, 4, 5, 6, 7, 8, 9, 10, 11, 48, 49, 50, 51, 26, 27, 28, 29, 17, 30, 31, 32, 33, 34, 52, 53, 54, 55, 25, 56, 57, 58, 59, 62, 63, 64, 65, 66, 67, 68, 69, 60, 61] (by decide +kernel) (by decide +kernel)
set_option maxRecDepth 20000 in
theorem gX1_makePass_X1_dropNeedless : GoodIn wsX1_makePass (wsV RX1 137 RX1 yX1_dropNeedless wsX1_dropNeedless) := goodIn_app (goodIn_of _ (by decide +kernel)) ggX1_makePass_X1_dropNeedless
theorem dX1_makePass_0 : decode cX1_makePass 0 = .ok (.iconst 0, 1) := by decide +kernel
theorem dX1_makePass_1 : decode cX1_makePass 1 = .ok (.istore_n 3, 1) := by decide +kernel
theorem dX1_makePass_2 : decode cX1_makePass 2 = .ok (.iload_n 3, 1) := by decide +kernel
theorem dX1_makePass_3 : decode cX1_makePass 3 = .ok (.aload_n 1, 1) := by decide +kernel
theorem dX1_makePass_4 : decode cX1_makePass 4 = .ok (.invokevirtual 63, 3) := by decide +kernel
theorem dX1_makePass_7 : decode cX1_makePass 7 = .ok (.if_icmp .ge 24, 3) := by decide +kernel
theorem dX1_makePass_10 : decode cX1_makePass 10 = .ok (.aload_n 1, 1) := by decide +kernel
theorem dX1_makePass_11 : decode cX1_makePass 11 = .ok (.iload_n 3, 1) := by decide +kernel
theorem dX1_makePass_12 : decode cX1_makePass 12 = .ok (.aload_n 0, 1) := by decide +kernel
theorem dX1_makePass_13 : decode cX1_makePass 13 = .ok (.aload_n 1, 1) := by decide +kernel
theorem dX1_makePass_14 : decode cX1_makePass 14 = .ok (.iload_n 3, 1) := by decide +kernel
theorem dX1_makePass_15 : decode cX1_makePass 15 = .ok (.invokevirtual 67, 3) := by decide +kernel
theorem dX1_makePass_18 : decode cX1_makePass 18 = .ok (.iload_n 2, 1) := by decide +kernel
theorem dX1_makePass_19 : decode cX1_makePass 19 = .ok (.invokevirtual 98, 3) := by decide +kernel
theorem dX1_makePass_22 : decode cX1_makePass 22 = .ok (.invokevirtual 133, 3) := by decide +kernel
theorem dX1_makePass_25 : decode cX1_makePass 25 = .ok (.iinc 3 1, 3) := by decide +kernel
theorem dX1_makePass_28 : decode cX1_makePass 28 = .ok (.goto (-26), 3) := by decide +kernel
theorem dX1_makePass_31 : decode cX1_makePass 31 = .ok (.aload_n 0, 1) := by decide +kernel
theorem dX1_makePass_32 : decode cX1_makePass 32 = .ok (.aload_n 1, 1) := by decide +kernel
theorem dX1_makePass_33 : decode cX1_makePass 33 = .ok (.invokevirtual 137, 3) := by decide +kernel
theorem dX1_makePass_36 : decode cX1_makePass 36 = .ok (.return_, 1) := by decide +kernel
set_option maxRecDepth 20000 in
theorem ggX1_dropNeedless_X1_countHolders : GoodIn wsX1_dropNeedless wsX1_countHolders := goodIn_r _ [5, 6, 7, 8, 9, 10, 11, 12, 13, 14, 15, 16, 17, 18, 19, 20, 4, 21, 22, 23, 24, 25, 26, 27, 28, 29, 30, 31, 41, 42, 43, 44, 45, 46, 47, 48, 49, 50] (by decide +kernel) (by decide +kernel)
set_option maxRecDepth 20000 in
theorem gX1_dropNeedless_X1_countHolders : GoodIn wsX1_dropNeedless (wsV RX1 140 RX1 yX1_countHolders wsX1_countHolders) := goodIn_app (goodIn_of _ (by decide +kernel)) ggX1_dropNeedless_X1_countHolders
set_option maxRecDepth 20000 in
theorem ggX1_dropNeedless_X0_length : GoodIn wsX1_dropNeedless wsX0_length := goodIn_r _ [11, 12, 49, 50] (by decide +kernel) (by decide +kernel)
set_option maxRecDepth 20000 in
theorem gX1_dropNeedless_X0_length : GoodIn wsX1_dropNeedless (wsV RX1 63 RX0 yX0_length wsX0_length) := goodIn_app (goodIn_of _ (by decide +kernel)) ggX1_dropNeedless_X0_length
set_option maxRecDepth 20000 in
theorem ggX1_dropNeedless_X0_at : GoodIn wsX1_dropNeedless wsX0_at := goodIn_r _ [16, 12, 17, 49, 50] (by decide +kernel) (by decide +kernel)
set_option maxRecDepth 20000 in
theorem gX1_dropNeedless_X0_at : GoodIn wsX1_dropNeedless (wsV RX1 67 RX0 yX0_at wsX0_at) := goodIn_app (goodIn_of _ (by decide +kernel)) ggX1_dropNeedless_X0_at
set_option maxRecDepth 20000 in
theorem ggX1_dropNeedless_X1_ownPart : GoodIn wsX1_dropNeedless wsX1_ownPart := goodIn_r _ [35, 36, 6, 31, 22, 23, 24, 4, 25, 26, 27, 28, 29, 30, 41, 42, 43, 44, 45, 46, 47, 48] (by decide +kernel) (by decide +kernel)
set_option maxRecDepth 20000 in
theorem gX1_dropNeedless_X1_ownPart : GoodIn wsX1_dropNeedless (wsV RX1 143 RX1 yX1_ownPart wsX1_ownPart) := goodIn_app (goodIn_of _ (by decide +kernel)) ggX1_dropNeedless_X1_ownPart
set_option maxRecDepth 20000 in
theorem ggX1_dropNeedless_X1_addToHolders : GoodIn wsX1_dropNeedless wsX1_addToHolders := goodIn_r _ [21, 6, 22, 23, 24, 4, 25, 26, 27, 28, 29, 30, 31, 41, 42, 43, 44, 45, 46, 47, 48] (by decide +kernel) (by decide +kernel)
set_option maxRecDepth 20000 in
theorem gX1_dropNeedless_X1_addToHolders : GoodIn wsX1_dropNeedless (wsV RX1 146 RX1 yX1_addToHolders wsX1_addToHolders) := goodIn_app (goodIn_of _ (by decide +kernel)) ggX1_dropNeedless_X1_addToHolders
set_option maxRecDepth 20000 in
theorem ggX1_dropNeedless_X0_takeOut : GoodIn wsX1_dropNeedless wsX0_takeOut := goodIn_r _ [40, 12, 17, 49, 50] (by decide +kernel) (by decide +kernel)
set_option maxRecDepth 20000 in
theorem gX1_dropNeedless_X0_takeOut : GoodIn wsX1_dropNeedless (wsV RX1 149 RX0 yX0_takeOut wsX0_takeOut) := goodIn_app (goodIn_of _ (by decide +kernel)) ggX1_dropNeedless_X0_takeOut
theorem dX1_dropNeedless_0 : decode cX1_dropNeedless 0 = .ok (.aload_n 0, 1) := by decide +kernel
theorem dX1_dropNeedless_1 : decode cX1_dropNeedless 1 = .ok (.aload_n 1, 1) := by decide +kernel
theorem dX1_dropNeedless_2 : decode cX1_dropNeedless 2 = .ok (.invokevirtual 140, 3) := by decide +kernel
theorem dX1_dropNeedless_5 : decode cX1_dropNeedless 5 = .ok (.aload_n 1, 1) := by decide +kernel
theorem dX1_dropNeedless_6 : decode cX1_dropNeedless 6 = .ok (.invokevirtual 63, 3) := by decide +kernel
theorem dX1_dropNeedless_9 : decode cX1_dropNeedless 9 = .ok (.iconst 1, 1) := by decide +kernel
theorem dX1_dropNeedless_10 : decode cX1_dropNeedless 10 = .ok (.isub, 1) := by decide +kernel
theorem dX1_dropNeedless_11 : decode cX1_dropNeedless 11 = .ok (.istore_n 2, 1) := by decide +kernel
theorem dX1_dropNeedless_12 : decode cX1_dropNeedless 12 = .ok (.iload_n 2, 1) := by decide +kernel
theorem dX1_dropNeedless_13 : decode cX1_dropNeedless 13 = .ok (.ifCond .lt 34, 3) := by decide +kernel
theorem dX1_dropNeedless_16 : decode cX1_dropNeedless 16 = .ok (.aload_n 1, 1) := by decide +kernel
theorem dX1_dropNeedless_17 : decode cX1_dropNeedless 17 = .ok (.iload_n 2, 1) := by decide +kernel
theorem dX1_dropNeedless_18 : decode cX1_dropNeedless 18 = .ok (.invokevirtual 67, 3) := by decide +kernel
theorem dX1_dropNeedless_21 : decode cX1_dropNeedless 21 = .ok (.istore_n 3, 1) := by decide +kernel
theorem dX1_dropNeedless_22 : decode cX1_dropNeedless 22 = .ok (.aload_n 0, 1) := by decide +kernel
theorem dX1_dropNeedless_23 : decode cX1_dropNeedless 23 = .ok (.iload_n 3, 1) := by decide +kernel
theorem dX1_dropNeedless_24 : decode cX1_dropNeedless 24 = .ok (.invokevirtual 143, 3) := by decide +kernel
theorem dX1_dropNeedless_27 : decode cX1_dropNeedless 27 = .ok (.ifCond .ne 14, 3) := by decide +kernel
theorem dX1_dropNeedless_30 : decode cX1_dropNeedless 30 = .ok (.aload_n 0, 1) := by decide +kernel
theorem dX1_dropNeedless_31 : decode cX1_dropNeedless 31 = .ok (.iload_n 3, 1) := by decide +kernel
theorem dX1_dropNeedless_32 : decode cX1_dropNeedless 32 = .ok (.iconst (-1), 1) := by decide +kernel
theorem dX1_dropNeedless_33 : decode cX1_dropNeedless 33 = .ok (.invokevirtual 146, 3) := by decide +kernel
theorem dX1_dropNeedless_36 : decode cX1_dropNeedless 36 = .ok (.aload_n 1, 1) := by decide +kernel
theorem dX1_dropNeedless_37 : decode cX1_dropNeedless 37 = .ok (.iload_n 2, 1) := by decide +kernel
theorem dX1_dropNeedless_38 : decode cX1_dropNeedless 38 = .ok (.invokevirtual 149, 3) := by decide +kernel
theorem dX1_dropNeedless_41 : decode cX1_dropNeedless 41 = .ok (.iinc 2 (-1), 3) := by decide +kernel
theorem dX1_dropNeedless_44 : decode cX1_dropNeedless 44 = .ok (.goto (-32), 3) := by decide +kernel
theorem dX1_dropNeedless_47 : decode cX1_dropNeedless 47 = .ok (.return_, 1) := by decide +kernel
set_option maxRecDepth 20000 in
theorem ggX1_narrow_X1_countHolders : GoodIn wsX1_narrow wsX1_countHolders := goodIn_r _ [5, 6, 7, 8, 9, 10, 11, 12, 13, 14, 15, 16, 17, 18, 19, 20, 4, 21, 22, 23, 24, 25, 26, 27, 28, 29, 30, 31, 41, 42, 43, 44, 45, 46, 47, 48, 49, 50] (by decide +kernel) (by decide +kernel)
set_option maxRecDepth 20000 in
theorem gX1_narrow_X1_countHolders : GoodIn wsX1_narrow (wsV RX1 140 RX1 yX1_countHolders wsX1_countHolders) := goodIn_app (goodIn_of _ (by decide +kernel)) ggX1_narrow_X1_countHolders
set_option maxRecDepth 20000 in
theorem ggX1_narrow_X0_length : GoodIn wsX1_narrow wsX0_length := goodIn_r _ [11, 12, 49, 50] (by decide +kernel) (by decide +kernel)
set_option maxRecDepth 20000 in
theorem gX1_narrow_X0_length : GoodIn wsX1_narrow (wsV RX1 63 RX0 yX0_length wsX0_length) := goodIn_app (goodIn_of _ (by decide +kernel)) ggX1_narrow_X0_length
set_option maxRecDepth 20000 in
theorem ggX1_narrow_X0_at : GoodIn wsX1_narrow wsX0_at := goodIn_r _ [16, 12, 17, 49, 50] (by decide +kernel) (by decide +kernel)
set_option maxRecDepth 20000 in
theorem gX1_narrow_X0_at : GoodIn wsX1_narrow (wsV RX1 67 RX0 yX0_at wsX0_at) := goodIn_app (goodIn_of _ (by decide +kernel)) ggX1_narrow_X0_at
set_option maxRecDepth 20000 in
theorem ggX1_narrow_X1_ownPart : GoodIn wsX1_narrow wsX1_ownPart := goodIn_r _ [35, 36, 6, 31, 22, 23, 24, 4, 25, 26, 27, 28, 29, 30, 41, 42, 43, 44, 45, 46, 47, 48] (by decide +kernel) (by decide +kernel)
set_option maxRecDepth 20000 in
theorem gX1_narrow_X1_ownPart : GoodIn wsX1_narrow (wsV RX1 143 RX1 yX1_ownPart wsX1_ownPart) := goodIn_app (goodIn_of _ (by decide +kernel)) ggX1_narrow_X1_ownPart
set_option maxRecDepth 20000 in
theorem ggX1_narrow_X1_addToHolders : GoodIn wsX1_narrow wsX1_addToHolders := goodIn_r _ [21, 6, 22, 23, 24, 4, 25, 26, 27, 28, 29, 30, 31, 41, 42, 43, 44, 45, 46, 47, 48] (by decide +kernel) (by decide +kernel)
set_option maxRecDepth 20000 in
theorem gX1_narrow_X1_addToHolders : GoodIn wsX1_narrow (wsV RX1 146 RX1 yX1_addToHolders wsX1_addToHolders) := goodIn_app (goodIn_of _ (by decide +kernel)) ggX1_narrow_X1_addToHolders
set_option maxRecDepth 20000 in
theorem ggX1_narrow_X0_put : GoodIn wsX1_narrow wsX0_put := goodIn_r _ [40, 12, 17, 49, 50] (by decide +kernel) (by decide +kernel)
set_option maxRecDepth 20000 in
theorem gX1_narrow_X0_put : GoodIn wsX1_narrow (wsV RX1 133 RX0 yX0_put wsX0_put) := goodIn_app (goodIn_of _ (by decide +kernel)) ggX1_narrow_X0_put
theorem dX1_narrow_0 : decode cX1_narrow 0 = .ok (.aload_n 0, 1) := by decide +kernel
theorem dX1_narrow_1 : decode cX1_narrow 1 = .ok (.aload_n 1, 1) := by decide +kernel
theorem dX1_narrow_2 : decode cX1_narrow 2 = .ok (.invokevirtual 140, 3) := by decide +kernel
theorem dX1_narrow_5 : decode cX1_narrow 5 = .ok (.iconst 0, 1) := by decide +kernel
theorem dX1_narrow_6 : decode cX1_narrow 6 = .ok (.istore_n 2, 1) := by decide +kernel
theorem dX1_narrow_7 : decode cX1_narrow 7 = .ok (.iload_n 2, 1) := by decide +kernel
theorem dX1_narrow_8 : decode cX1_narrow 8 = .ok (.aload_n 1, 1) := by decide +kernel
theorem dX1_narrow_9 : decode cX1_narrow 9 = .ok (.invokevirtual 63, 3) := by decide +kernel
theorem dX1_narrow_12 : decode cX1_narrow 12 = .ok (.if_icmp .ge 42, 3) := by decide +kernel
theorem dX1_narrow_15 : decode cX1_narrow 15 = .ok (.aload_n 1, 1) := by decide +kernel
theorem dX1_narrow_16 : decode cX1_narrow 16 = .ok (.iload_n 2, 1) := by decide +kernel
theorem dX1_narrow_17 : decode cX1_narrow 17 = .ok (.invokevirtual 67, 3) := by decide +kernel
theorem dX1_narrow_20 : decode cX1_narrow 20 = .ok (.istore_n 3, 1) := by decide +kernel
theorem dX1_narrow_21 : decode cX1_narrow 21 = .ok (.aload_n 0, 1) := by decide +kernel
theorem dX1_narrow_22 : decode cX1_narrow 22 = .ok (.iload_n 3, 1) := by decide +kernel
theorem dX1_narrow_23 : decode cX1_narrow 23 = .ok (.invokevirtual 143, 3) := by decide +kernel
theorem dX1_narrow_26 : decode cX1_narrow 26 = .ok (.istore 4, 2) := by decide +kernel
theorem dX1_narrow_28 : decode cX1_narrow 28 = .ok (.aload_n 0, 1) := by decide +kernel
theorem dX1_narrow_29 : decode cX1_narrow 29 = .ok (.iload_n 3, 1) := by decide +kernel
theorem dX1_narrow_30 : decode cX1_narrow 30 = .ok (.iconst (-1), 1) := by decide +kernel
theorem dX1_narrow_31 : decode cX1_narrow 31 = .ok (.invokevirtual 146, 3) := by decide +kernel
theorem dX1_narrow_34 : decode cX1_narrow 34 = .ok (.aload_n 0, 1) := by decide +kernel
theorem dX1_narrow_35 : decode cX1_narrow 35 = .ok (.iload 4, 2) := by decide +kernel
theorem dX1_narrow_37 : decode cX1_narrow 37 = .ok (.iconst 1, 1) := by decide +kernel
theorem dX1_narrow_38 : decode cX1_narrow 38 = .ok (.invokevirtual 146, 3) := by decide +kernel
theorem dX1_narrow_41 : decode cX1_narrow 41 = .ok (.aload_n 1, 1) := by decide +kernel
theorem dX1_narrow_42 : decode cX1_narrow 42 = .ok (.iload_n 2, 1) := by decide +kernel
theorem dX1_narrow_43 : decode cX1_narrow 43 = .ok (.iload 4, 2) := by decide +kernel
theorem dX1_narrow_45 : decode cX1_narrow 45 = .ok (.invokevirtual 133, 3) := by decide +kernel
theorem dX1_narrow_48 : decode cX1_narrow 48 = .ok (.iinc 2 1, 3) := by decide +kernel
theorem dX1_narrow_51 : decode cX1_narrow 51 = .ok (.goto (-44), 3) := by decide +kernel
theorem dX1_narrow_54 : decode cX1_narrow 54 = .ok (.return_, 1) := by decide +kernel
set_option maxRecDepth 20000 in
theorem ggX1_countHolders_X0_length : GoodIn wsX1_countHolders wsX0_length := goodIn_r _ [6, 7, 36, 37] (by decide +kernel) (by decide +kernel)
set_option maxRecDepth 20000 in
theorem gX1_countHolders_X0_length : GoodIn wsX1_countHolders (wsV RX1 63 RX0 yX0_length wsX0_length) := goodIn_app (goodIn_of _ (by decide +kernel)) ggX1_countHolders_X0_length
set_option maxRecDepth 20000 in
theorem ggX1_countHolders_X0_at : GoodIn wsX1_countHolders wsX0_at := goodIn_r _ [11, 7, 12, 36, 37] (by decide +kernel) (by decide +kernel)
set_option maxRecDepth 20000 in
theorem gX1_countHolders_X0_at : GoodIn wsX1_countHolders (wsV RX1 67 RX0 yX0_at wsX0_at) := goodIn_app (goodIn_of _ (by decide +kernel)) ggX1_countHolders_X0_at
set_option maxRecDepth 20000 in
theorem ggX1_countHolders_X1_addToHolders : GoodIn wsX1_countHolders wsX1_addToHolders := goodIn_r _ [17, 1, 18, 19, 20, 16, 21, 22, 23, 24, 25, 26, 27, 28, 29, 30, 31, 32, 33, 34, 35] (by decide +kernel) (by decide +kernel)
set_option maxRecDepth 20000 in
theorem gX1_countHolders_X1_addToHolders : GoodIn wsX1_countHolders (wsV RX1 146 RX1 yX1_addToHolders wsX1_addToHolders) := goodIn_app (goodIn_of _ (by decide +kernel)) ggX1_countHolders_X1_addToHolders
theorem dX1_countHolders_0 : decode cX1_countHolders 0 = .ok (.iconst 0, 1) := by decide +kernel
theorem dX1_countHolders_1 : decode cX1_countHolders 1 = .ok (.istore_n 2, 1) := by decide +kernel
theorem dX1_countHolders_2 : decode cX1_countHolders 2 = .ok (.iload_n 2, 1) := by decide +kernel
theorem dX1_countHolders_3 : decode cX1_countHolders 3 = .ok (.sipush 256, 3) := by decide +kernel
theorem dX1_countHolders_6 : decode cX1_countHolders 6 = .ok (.if_icmp .ge 16, 3) := by decide +kernel
theorem dX1_countHolders_9 : decode cX1_countHolders 9 = .ok (.aload_n 0, 1) := by decide +kernel
theorem dX1_countHolders_10 : decode cX1_countHolders 10 = .ok (.getfield 32, 3) := by decide +kernel
theorem dX1_countHolders_13 : decode cX1_countHolders 13 = .ok (.iload_n 2, 1) := by decide +kernel
theorem dX1_countHolders_14 : decode cX1_countHolders 14 = .ok (.iconst 0, 1) := by decide +kernel
theorem dX1_countHolders_15 : decode cX1_countHolders 15 = .ok (.iastore, 1) := by decide +kernel
theorem dX1_countHolders_16 : decode cX1_countHolders 16 = .ok (.iinc 2 1, 3) := by decide +kernel
theorem dX1_countHolders_19 : decode cX1_countHolders 19 = .ok (.goto (-17), 3) := by decide +kernel
theorem dX1_countHolders_22 : decode cX1_countHolders 22 = .ok (.iconst 0, 1) := by decide +kernel
theorem dX1_countHolders_23 : decode cX1_countHolders 23 = .ok (.istore_n 2, 1) := by decide +kernel
theorem dX1_countHolders_24 : decode cX1_countHolders 24 = .ok (.iload_n 2, 1) := by decide +kernel
theorem dX1_countHolders_25 : decode cX1_countHolders 25 = .ok (.aload_n 1, 1) := by decide +kernel
theorem dX1_countHolders_26 : decode cX1_countHolders 26 = .ok (.invokevirtual 63, 3) := by decide +kernel
theorem dX1_countHolders_29 : decode cX1_countHolders 29 = .ok (.if_icmp .ge 19, 3) := by decide +kernel
theorem dX1_countHolders_32 : decode cX1_countHolders 32 = .ok (.aload_n 0, 1) := by decide +kernel
theorem dX1_countHolders_33 : decode cX1_countHolders 33 = .ok (.aload_n 1, 1) := by decide +kernel
theorem dX1_countHolders_34 : decode cX1_countHolders 34 = .ok (.iload_n 2, 1) := by decide +kernel
theorem dX1_countHolders_35 : decode cX1_countHolders 35 = .ok (.invokevirtual 67, 3) := by decide +kernel
theorem dX1_countHolders_38 : decode cX1_countHolders 38 = .ok (.iconst 1, 1) := by decide +kernel
theorem dX1_countHolders_39 : decode cX1_countHolders 39 = .ok (.invokevirtual 146, 3) := by decide +kernel
