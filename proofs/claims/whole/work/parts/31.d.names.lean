theorem dX4_saves_35 : decode cX4_saves 35 = .ok (.aload_n 0, 1) := by decide +kernel
theorem dX4_saves_36 : decode cX4_saves 36 = .ok (.getfield 10, 3) := by decide +kernel
theorem dX4_saves_39 : decode cX4_saves 39 = .ok (.aload_n 0, 1) := by decide +kernel
theorem dX4_saves_40 : decode cX4_saves 40 = .ok (.getfield 10, 3) := by decide +kernel
theorem dX4_saves_43 : decode cX4_saves 43 = .ok (.getfield 122, 3) := by decide +kernel
theorem dX4_saves_46 : decode cX4_saves 46 = .ok (.iconst 1, 1) := by decide +kernel
theorem dX4_saves_47 : decode cX4_saves 47 = .ok (.iload_n 1, 1) := by decide +kernel
theorem dX4_saves_48 : decode cX4_saves 48 = .ok (.ishl, 1) := by decide +kernel
theorem dX4_saves_49 : decode cX4_saves 49 = .ok (.ior, 1) := by decide +kernel
theorem dX4_saves_50 : decode cX4_saves 50 = .ok (.invokevirtual 129, 3) := by decide +kernel
theorem dX4_saves_53 : decode cX4_saves 53 = .ok (.istore 4, 2) := by decide +kernel
theorem dX4_saves_55 : decode cX4_saves 55 = .ok (.aload_n 0, 1) := by decide +kernel
theorem dX4_saves_56 : decode cX4_saves 56 = .ok (.getfield 10, 3) := by decide +kernel
theorem dX4_saves_59 : decode cX4_saves 59 = .ok (.iload_n 3, 1) := by decide +kernel
theorem dX4_saves_60 : decode cX4_saves 60 = .ok (.invokevirtual 133, 3) := by decide +kernel
theorem dX4_saves_63 : decode cX4_saves 63 = .ok (.aload_n 0, 1) := by decide +kernel
theorem dX4_saves_64 : decode cX4_saves 64 = .ok (.getfield 10, 3) := by decide +kernel
theorem dX4_saves_67 : decode cX4_saves 67 = .ok (.iload 4, 2) := by decide +kernel
theorem dX4_saves_69 : decode cX4_saves 69 = .ok (.invokevirtual 133, 3) := by decide +kernel
theorem dX4_saves_72 : decode cX4_saves 72 = .ok (.isub, 1) := by decide +kernel
theorem dX4_saves_73 : decode cX4_saves 73 = .ok (.ireturn, 1) := by decide +kernel
set_option maxRecDepth 20000 in
theorem ggX4_least_X3_has : GoodIn wsX4_least wsX3_has := goodIn_r _ [5, 6, 77, 78, 79, 80, 81] (by decide +kernel) (by decide +kernel)
set_option maxRecDepth 20000 in
theorem gX4_least_X3_has_n100 : GoodIn wsX4_least (wsX3_has) := ggX4_least_X3_has
set_option maxRecDepth 20000 in
theorem ggX4_least_X4_currentTellings : GoodIn wsX4_least wsX4_currentTellings := goodIn_r _ [11, 12, 13, 1, 14, 15, 16, 10, 17, 18, 19, 20, 21, 22, 23, 24, 25, 26, 27, 28, 29, 30, 31, 32, 3, 33, 34, 6, 35, 36, 37, 38, 39, 40, 41, 42, 43, 44, 45, 46, 47, 48, 49, 50, 51, 52, 53, 54, 55, 56, 57, 58, 69, 70, 71, 72, 73, 74, 75, 76, 77, 78, 79, 80, 81, 82, 83, 84, 85, 86, 87] (by decide +kernel) (by decide +kernel)
set_option maxRecDepth 20000 in
theorem gX4_least_X4_currentTellings : GoodIn wsX4_least (wsV RX4 125 RX4 yX4_currentTellings wsX4_currentTellings) := goodIn_app (goodIn_of _ (by decide +kernel)) ggX4_least_X4_currentTellings
set_option maxRecDepth 20000 in
theorem ggX4_least_X1_greatestLeast : GoodIn wsX4_least wsX1_greatestLeast := goodIn_r _ [61, 31, 30, 35, 36, 37, 38, 39, 40, 41, 62, 63, 64, 27, 65, 46, 47, 48, 49, 50, 56, 57, 58, 85, 86, 87] (by decide +kernel) (by decide +kernel)
set_option maxRecDepth 20000 in
theorem gX4_least_X1_greatestLeast_n139 : GoodIn wsX4_least (wsX1_greatestLeast) := ggX4_least_X1_greatestLeast
set_option maxRecDepth 20000 in
theorem ggX4_least_X1_leastWith : GoodIn wsX4_least wsX1_leastWith := goodIn_r _ [68, 31, 30, 35, 36, 37, 38, 39, 40, 41, 62, 63, 64, 27, 65, 46, 47, 48, 49, 50, 56, 57, 58, 85, 86, 87] (by decide +kernel) (by decide +kernel)
set_option maxRecDepth 20000 in
theorem gX4_least_X1_leastWith_n142 : GoodIn wsX4_least (wsX1_leastWith) := ggX4_least_X1_leastWith
theorem dX4_least_0 : decode cX4_least 0 = .ok (.iload_n 1, 1) := by decide +kernel
theorem dX4_least_1 : decode cX4_least 1 = .ok (.ifCond .eq 25, 3) := by decide +kernel
theorem dX4_least_4 : decode cX4_least 4 = .ok (.iload_n 1, 1) := by decide +kernel
theorem dX4_least_5 : decode cX4_least 5 = .ok (.iconst 1, 1) := by decide +kernel
theorem dX4_least_6 : decode cX4_least 6 = .ok (.if_icmp .eq 20, 3) := by decide +kernel
theorem dX4_least_9 : decode cX4_least 9 = .ok (.aload_n 0, 1) := by decide +kernel
theorem dX4_least_10 : decode cX4_least 10 = .ok (.getfield 10, 3) := by decide +kernel
theorem dX4_least_13 : decode cX4_least 13 = .ok (.iload_n 1, 1) := by decide +kernel
theorem dX4_least_14 : decode cX4_least 14 = .ok (.bipush 10, 2) := by decide +kernel
theorem dX4_least_16 : decode cX4_least 16 = .ok (.isub, 1) := by decide +kernel
theorem dX4_least_17 : decode cX4_least 17 = .ok (.invokevirtual 100, 3) := by decide +kernel
theorem dX4_least_20 : decode cX4_least 20 = .ok (.ifCond .ne 6, 3) := by decide +kernel
theorem dX4_least_23 : decode cX4_least 23 = .ok (.bipush (-2), 2) := by decide +kernel
theorem dX4_least_25 : decode cX4_least 25 = .ok (.ireturn, 1) := by decide +kernel
theorem dX4_least_26 : decode cX4_least 26 = .ok (.aload_n 0, 1) := by decide +kernel
theorem dX4_least_27 : decode cX4_least 27 = .ok (.invokevirtual 125, 3) := by decide +kernel
theorem dX4_least_30 : decode cX4_least 30 = .ok (.astore_n 2, 1) := by decide +kernel
theorem dX4_least_31 : decode cX4_least 31 = .ok (.iload_n 1, 1) := by decide +kernel
theorem dX4_least_32 : decode cX4_least 32 = .ok (.iconst 1, 1) := by decide +kernel
theorem dX4_least_33 : decode cX4_least 33 = .ok (.if_icmp .ne 8, 3) := by decide +kernel
theorem dX4_least_36 : decode cX4_least 36 = .ok (.aload_n 2, 1) := by decide +kernel
theorem dX4_least_37 : decode cX4_least 37 = .ok (.invokevirtual 139, 3) := by decide +kernel
theorem dX4_least_40 : decode cX4_least 40 = .ok (.ireturn, 1) := by decide +kernel
theorem dX4_least_41 : decode cX4_least 41 = .ok (.aload_n 2, 1) := by decide +kernel
theorem dX4_least_42 : decode cX4_least 42 = .ok (.iload_n 1, 1) := by decide +kernel
theorem dX4_least_43 : decode cX4_least 43 = .ok (.ifCond .ne 7, 3) := by decide +kernel
theorem dX4_least_46 : decode cX4_least 46 = .ok (.iconst 0, 1) := by decide +kernel
theorem dX4_least_47 : decode cX4_least 47 = .ok (.goto 9, 3) := by decide +kernel
theorem dX4_least_50 : decode cX4_least 50 = .ok (.iconst 1, 1) := by decide +kernel
theorem dX4_least_51 : decode cX4_least 51 = .ok (.iload_n 1, 1) := by decide +kernel
theorem dX4_least_52 : decode cX4_least 52 = .ok (.bipush 10, 2) := by decide +kernel
theorem dX4_least_54 : decode cX4_least 54 = .ok (.isub, 1) := by decide +kernel
theorem dX4_least_55 : decode cX4_least 55 = .ok (.ishl, 1) := by decide +kernel
theorem dX4_least_56 : decode cX4_least 56 = .ok (.invokevirtual 142, 3) := by decide +kernel
theorem dX4_least_59 : decode cX4_least 59 = .ok (.ireturn, 1) := by decide +kernel
set_option maxRecDepth 20000 in
theorem ggX4_way_X3_has : GoodIn wsX4_way wsX3_has := goodIn_r _ [5, 6, 23, 24, 25, 26, 27] (by decide +kernel) (by decide +kernel)
set_option maxRecDepth 20000 in
theorem gX4_way_X3_has_n100 : GoodIn wsX4_way (wsX3_has) := ggX4_way_X3_has
set_option maxRecDepth 20000 in
theorem ggX4_way_X3_stepsBetween : GoodIn wsX4_way wsX3_stepsBetween := goodIn_r _ [9, 10, 6, 11, 12, 13, 3, 14, 23, 24, 25, 26, 27] (by decide +kernel) (by decide +kernel)
set_option maxRecDepth 20000 in
theorem gX4_way_X3_stepsBetween_n145 : GoodIn wsX4_way (wsX3_stepsBetween) := ggX4_way_X3_stepsBetween
theorem dX4_way_0 : decode cX4_way 0 = .ok (.aload_n 0, 1) := by decide +kernel
theorem dX4_way_1 : decode cX4_way 1 = .ok (.getfield 10, 3) := by decide +kernel
theorem dX4_way_4 : decode cX4_way 4 = .ok (.iload_n 1, 1) := by decide +kernel
theorem dX4_way_5 : decode cX4_way 5 = .ok (.invokevirtual 100, 3) := by decide +kernel
theorem dX4_way_8 : decode cX4_way 8 = .ok (.ifCond .eq 14, 3) := by decide +kernel
theorem dX4_way_11 : decode cX4_way 11 = .ok (.aload_n 0, 1) := by decide +kernel
theorem dX4_way_12 : decode cX4_way 12 = .ok (.getfield 10, 3) := by decide +kernel
theorem dX4_way_15 : decode cX4_way 15 = .ok (.iload_n 2, 1) := by decide +kernel
theorem dX4_way_16 : decode cX4_way 16 = .ok (.invokevirtual 100, 3) := by decide +kernel
theorem dX4_way_19 : decode cX4_way 19 = .ok (.ifCond .ne 5, 3) := by decide +kernel
theorem dX4_way_22 : decode cX4_way 22 = .ok (.iconst (-1), 1) := by decide +kernel
theorem dX4_way_23 : decode cX4_way 23 = .ok (.ireturn, 1) := by decide +kernel
theorem dX4_way_24 : decode cX4_way 24 = .ok (.aload_n 0, 1) := by decide +kernel
theorem dX4_way_25 : decode cX4_way 25 = .ok (.getfield 10, 3) := by decide +kernel
theorem dX4_way_28 : decode cX4_way 28 = .ok (.iload_n 1, 1) := by decide +kernel
theorem dX4_way_29 : decode cX4_way 29 = .ok (.iload_n 2, 1) := by decide +kernel
theorem dX4_way_30 : decode cX4_way 30 = .ok (.invokevirtual 145, 3) := by decide +kernel
theorem dX4_way_33 : decode cX4_way 33 = .ok (.ireturn, 1) := by decide +kernel
set_option maxRecDepth 20000 in
theorem ggX4_ring_X4_currentRings : GoodIn wsX4_ring wsX4_currentRings := goodIn_r _ [5, 6, 7, 8, 9, 10, 11, 12, 13, 14, 25, 26, 27, 28, 29, 30, 31, 32, 33, 34, 35, 36, 37, 38, 39, 40] (by decide +kernel) (by decide +kernel)
set_option maxRecDepth 20000 in
theorem gX4_ring_X4_currentRings : GoodIn wsX4_ring (wsV RX4 148 RX4 yX4_currentRings wsX4_currentRings) := goodIn_app (goodIn_of _ (by decide +kernel)) ggX4_ring_X4_currentRings
set_option maxRecDepth 20000 in
theorem ggX4_ring_X0_howMany : GoodIn wsX4_ring wsX0_howMany := goodIn_r _ [17, 14, 12, 18, 19, 20, 9, 21, 13, 38, 39, 40] (by decide +kernel) (by decide +kernel)
set_option maxRecDepth 20000 in
theorem gX4_ring_X0_howMany_n152 : GoodIn wsX4_ring (wsX0_howMany) := ggX4_ring_X0_howMany
set_option maxRecDepth 20000 in
theorem ggX4_ring_X0_numbered : GoodIn wsX4_ring wsX0_numbered := goodIn_r _ [24, 14, 12, 18, 19, 20, 9, 21, 13, 38, 39, 40] (by decide +kernel) (by decide +kernel)
set_option maxRecDepth 20000 in
theorem gX4_ring_X0_numbered_n155 : GoodIn wsX4_ring (wsX0_numbered) := ggX4_ring_X0_numbered
theorem dX4_ring_0 : decode cX4_ring 0 = .ok (.iload_n 1, 1) := by decide +kernel
theorem dX4_ring_1 : decode cX4_ring 1 = .ok (.iconst (-1), 1) := by decide +kernel
theorem dX4_ring_2 : decode cX4_ring 2 = .ok (.if_icmp .ge 6, 3) := by decide +kernel
theorem dX4_ring_5 : decode cX4_ring 5 = .ok (.bipush (-2), 2) := by decide +kernel
theorem dX4_ring_7 : decode cX4_ring 7 = .ok (.ireturn, 1) := by decide +kernel
theorem dX4_ring_8 : decode cX4_ring 8 = .ok (.aload_n 0, 1) := by decide +kernel
theorem dX4_ring_9 : decode cX4_ring 9 = .ok (.invokevirtual 148, 3) := by decide +kernel
theorem dX4_ring_12 : decode cX4_ring 12 = .ok (.astore_n 2, 1) := by decide +kernel
theorem dX4_ring_13 : decode cX4_ring 13 = .ok (.iload_n 1, 1) := by decide +kernel
theorem dX4_ring_14 : decode cX4_ring 14 = .ok (.iconst (-1), 1) := by decide +kernel
theorem dX4_ring_15 : decode cX4_ring 15 = .ok (.if_icmp .ne 10, 3) := by decide +kernel
theorem dX4_ring_18 : decode cX4_ring 18 = .ok (.aload_n 2, 1) := by decide +kernel
theorem dX4_ring_19 : decode cX4_ring 19 = .ok (.invokevirtual 152, 3) := by decide +kernel
theorem dX4_ring_22 : decode cX4_ring 22 = .ok (.goto 8, 3) := by decide +kernel
theorem dX4_ring_25 : decode cX4_ring 25 = .ok (.aload_n 2, 1) := by decide +kernel
theorem dX4_ring_26 : decode cX4_ring 26 = .ok (.iload_n 1, 1) := by decide +kernel
theorem dX4_ring_27 : decode cX4_ring 27 = .ok (.invokevirtual 155, 3) := by decide +kernel
theorem dX4_ring_30 : decode cX4_ring 30 = .ok (.ireturn, 1) := by decide +kernel
set_option maxRecDepth 20000 in
theorem ggX4_lie_X4_currentRings : GoodIn wsX4_lie wsX4_currentRings := goodIn_r _ [6, 7, 1, 8, 9, 10, 11, 12, 13, 14, 33, 34, 35, 36, 37, 38, 39, 40, 41, 42, 43, 44, 45, 30, 31, 32] (by decide +kernel) (by decide +kernel)
set_option maxRecDepth 20000 in
theorem gX4_lie_X4_currentRings : GoodIn wsX4_lie (wsV RX4 148 RX4 yX4_currentRings wsX4_currentRings) := goodIn_app (goodIn_of _ (by decide +kernel)) ggX4_lie_X4_currentRings
set_option maxRecDepth 20000 in
theorem ggX4_lie_X0_before : GoodIn wsX4_lie wsX0_before := goodIn_r _ [17, 12, 14, 13, 30, 31, 32] (by decide +kernel) (by decide +kernel)
set_option maxRecDepth 20000 in
theorem gX4_lie_X0_before_n161 : GoodIn wsX4_lie (wsX0_before) := ggX4_lie_X0_before
set_option maxRecDepth 20000 in
theorem ggX4_lie_X0_behind : GoodIn wsX4_lie wsX0_behind := goodIn_r _ [20, 12, 13, 14, 30, 31, 32] (by decide +kernel) (by decide +kernel)
set_option maxRecDepth 20000 in
theorem gX4_lie_X0_behind_n164 : GoodIn wsX4_lie (wsX0_behind) := ggX4_lie_X0_behind
set_option maxRecDepth 20000 in
theorem ggX4_lie_X3_all : GoodIn wsX4_lie wsX3_all := goodIn_r _ [24, 25, 41, 42, 43, 44, 45] (by decide +kernel) (by decide +kernel)
set_option maxRecDepth 20000 in
theorem gX4_lie_X3_all_n136 : GoodIn wsX4_lie (wsX3_all) := ggX4_lie_X3_all
set_option maxRecDepth 20000 in
theorem ggX4_lie_X3_used : GoodIn wsX4_lie wsX3_used := goodIn_r _ [28, 25, 29, 41, 42, 43, 44, 45] (by decide +kernel) (by decide +kernel)
set_option maxRecDepth 20000 in
theorem gX4_lie_X3_used_n167 : GoodIn wsX4_lie (wsX3_used) := ggX4_lie_X3_used
theorem dX4_lie_0 : decode cX4_lie 0 = .ok (.iload_n 1, 1) := by decide +kernel
theorem dX4_lie_1 : decode cX4_lie 1 = .ok (.tableswitch 95 0 4 #[35, 43, 51, 59, 77], 35) := by decide +kernel
theorem dX4_lie_36 : decode cX4_lie 36 = .ok (.aload_n 0, 1) := by decide +kernel
theorem dX4_lie_37 : decode cX4_lie 37 = .ok (.invokevirtual 148, 3) := by decide +kernel
theorem dX4_lie_40 : decode cX4_lie 40 = .ok (.getfield 158, 3) := by decide +kernel
theorem dX4_lie_43 : decode cX4_lie 43 = .ok (.ireturn, 1) := by decide +kernel
theorem dX4_lie_44 : decode cX4_lie 44 = .ok (.aload_n 0, 1) := by decide +kernel
theorem dX4_lie_45 : decode cX4_lie 45 = .ok (.invokevirtual 148, 3) := by decide +kernel
theorem dX4_lie_48 : decode cX4_lie 48 = .ok (.invokevirtual 161, 3) := by decide +kernel
theorem dX4_lie_51 : decode cX4_lie 51 = .ok (.ireturn, 1) := by decide +kernel
theorem dX4_lie_52 : decode cX4_lie 52 = .ok (.aload_n 0, 1) := by decide +kernel
theorem dX4_lie_53 : decode cX4_lie 53 = .ok (.invokevirtual 148, 3) := by decide +kernel
theorem dX4_lie_56 : decode cX4_lie 56 = .ok (.invokevirtual 164, 3) := by decide +kernel
theorem dX4_lie_59 : decode cX4_lie 59 = .ok (.ireturn, 1) := by decide +kernel
theorem dX4_lie_60 : decode cX4_lie 60 = .ok (.aload_n 0, 1) := by decide +kernel
theorem dX4_lie_61 : decode cX4_lie 61 = .ok (.getfield 10, 3) := by decide +kernel
theorem dX4_lie_64 : decode cX4_lie 64 = .ok (.invokevirtual 136, 3) := by decide +kernel
theorem dX4_lie_67 : decode cX4_lie 67 = .ok (.aload_n 0, 1) := by decide +kernel
theorem dX4_lie_68 : decode cX4_lie 68 = .ok (.getfield 10, 3) := by decide +kernel
theorem dX4_lie_71 : decode cX4_lie 71 = .ok (.invokevirtual 167, 3) := by decide +kernel
theorem dX4_lie_74 : decode cX4_lie 74 = .ok (.iconst (-1), 1) := by decide +kernel
theorem dX4_lie_75 : decode cX4_lie 75 = .ok (.ixor, 1) := by decide +kernel
theorem dX4_lie_76 : decode cX4_lie 76 = .ok (.iand, 1) := by decide +kernel
theorem dX4_lie_77 : decode cX4_lie 77 = .ok (.ireturn, 1) := by decide +kernel
theorem dX4_lie_78 : decode cX4_lie 78 = .ok (.aload_n 0, 1) := by decide +kernel
theorem dX4_lie_79 : decode cX4_lie 79 = .ok (.getfield 10, 3) := by decide +kernel
theorem dX4_lie_82 : decode cX4_lie 82 = .ok (.invokevirtual 136, 3) := by decide +kernel
theorem dX4_lie_85 : decode cX4_lie 85 = .ok (.aload_n 0, 1) := by decide +kernel
theorem dX4_lie_86 : decode cX4_lie 86 = .ok (.getfield 10, 3) := by decide +kernel
theorem dX4_lie_89 : decode cX4_lie 89 = .ok (.getfield 170, 3) := by decide +kernel
theorem dX4_lie_92 : decode cX4_lie 92 = .ok (.iconst (-1), 1) := by decide +kernel
theorem dX4_lie_93 : decode cX4_lie 93 = .ok (.ixor, 1) := by decide +kernel
theorem dX4_lie_94 : decode cX4_lie 94 = .ok (.iand, 1) := by decide +kernel
theorem dX4_lie_95 : decode cX4_lie 95 = .ok (.ireturn, 1) := by decide +kernel
theorem dX4_lie_96 : decode cX4_lie 96 = .ok (.bipush (-2), 2) := by decide +kernel
theorem dX4_lie_98 : decode cX4_lie 98 = .ok (.ireturn, 1) := by decide +kernel
set_option maxRecDepth 20000 in
theorem ggX4_image_X3_copyFrom : GoodIn wsX4_image wsX3_copyFrom := goodIn_r _ [7, 8, 9, 10, 11, 12, 21, 22, 23, 24, 25] (by decide +kernel) (by decide +kernel)
set_option maxRecDepth 20000 in
theorem gX4_image_X3_copyFrom_n173 : GoodIn wsX4_image (wsX3_copyFrom) := ggX4_image_X3_copyFrom
theorem dX4_image_0 : decode cX4_image 0 = .ok (.iload_n 1, 1) := by decide +kernel
theorem dX4_image_1 : decode cX4_image 1 = .ok (.ifCond .lt 8, 3) := by decide +kernel
theorem dX4_image_4 : decode cX4_image 4 = .ok (.iload_n 1, 1) := by decide +kernel
theorem dX4_image_5 : decode cX4_image 5 = .ok (.iconst 2, 1) := by decide +kernel
theorem dX4_image_6 : decode cX4_image 6 = .ok (.if_icmp .lt 6, 3) := by decide +kernel
theorem dX4_image_9 : decode cX4_image 9 = .ok (.bipush (-2), 2) := by decide +kernel
theorem dX4_image_11 : decode cX4_image 11 = .ok (.ireturn, 1) := by decide +kernel
theorem dX4_image_12 : decode cX4_image 12 = .ok (.aload_n 0, 1) := by decide +kernel
theorem dX4_image_13 : decode cX4_image 13 = .ok (.getfield 16, 3) := by decide +kernel
theorem dX4_image_16 : decode cX4_image 16 = .ok (.iload_n 1, 1) := by decide +kernel
theorem dX4_image_17 : decode cX4_image 17 = .ok (.aaload, 1) := by decide +kernel
theorem dX4_image_18 : decode cX4_image 18 = .ok (.aload_n 0, 1) := by decide +kernel
theorem dX4_image_19 : decode cX4_image 19 = .ok (.getfield 10, 3) := by decide +kernel
theorem dX4_image_22 : decode cX4_image 22 = .ok (.invokevirtual 173, 3) := by decide +kernel
theorem dX4_image_25 : decode cX4_image 25 = .ok (.aload_n 0, 1) := by decide +kernel
theorem dX4_image_26 : decode cX4_image 26 = .ok (.dup, 1) := by decide +kernel
theorem dX4_image_27 : decode cX4_image 27 = .ok (.getfield 41, 3) := by decide +kernel
theorem dX4_image_30 : decode cX4_image 30 = .ok (.iconst 1, 1) := by decide +kernel
theorem dX4_image_31 : decode cX4_image 31 = .ok (.iload_n 1, 1) := by decide +kernel
theorem dX4_image_32 : decode cX4_image 32 = .ok (.ishl, 1) := by decide +kernel
theorem dX4_image_33 : decode cX4_image 33 = .ok (.ior, 1) := by decide +kernel
theorem dX4_image_34 : decode cX4_image 34 = .ok (.putfield 41, 3) := by decide +kernel
theorem dX4_image_37 : decode cX4_image 37 = .ok (.iconst 1, 1) := by decide +kernel
theorem dX4_image_38 : decode cX4_image 38 = .ok (.ireturn, 1) := by decide +kernel
set_option maxRecDepth 20000 in
theorem ggX4_restore_X3_copyFrom : GoodIn wsX4_restore wsX3_copyFrom := goodIn_r _ [8, 9, 10, 11, 12, 13, 22, 23, 24, 25, 26] (by decide +kernel) (by decide +kernel)
set_option maxRecDepth 20000 in
theorem gX4_restore_X3_copyFrom_n173 : GoodIn wsX4_restore (wsX3_copyFrom) := ggX4_restore_X3_copyFrom
theorem dX4_restore_0 : decode cX4_restore 0 = .ok (.iload_n 1, 1) := by decide +kernel
theorem dX4_restore_1 : decode cX4_restore 1 = .ok (.ifCond .lt 8, 3) := by decide +kernel
theorem dX4_restore_4 : decode cX4_restore 4 = .ok (.iload_n 1, 1) := by decide +kernel
theorem dX4_restore_5 : decode cX4_restore 5 = .ok (.iconst 2, 1) := by decide +kernel
theorem dX4_restore_6 : decode cX4_restore 6 = .ok (.if_icmp .lt 6, 3) := by decide +kernel
theorem dX4_restore_9 : decode cX4_restore 9 = .ok (.bipush (-2), 2) := by decide +kernel
theorem dX4_restore_11 : decode cX4_restore 11 = .ok (.ireturn, 1) := by decide +kernel
theorem dX4_restore_12 : decode cX4_restore 12 = .ok (.aload_n 0, 1) := by decide +kernel
theorem dX4_restore_13 : decode cX4_restore 13 = .ok (.getfield 41, 3) := by decide +kernel
theorem dX4_restore_16 : decode cX4_restore 16 = .ok (.iload_n 1, 1) := by decide +kernel
theorem dX4_restore_17 : decode cX4_restore 17 = .ok (.ishr, 1) := by decide +kernel
theorem dX4_restore_18 : decode cX4_restore 18 = .ok (.iconst 1, 1) := by decide +kernel
theorem dX4_restore_19 : decode cX4_restore 19 = .ok (.iand, 1) := by decide +kernel
theorem dX4_restore_20 : decode cX4_restore 20 = .ok (.ifCond .ne 6, 3) := by decide +kernel
theorem dX4_restore_23 : decode cX4_restore 23 = .ok (.bipush (-3), 2) := by decide +kernel
theorem dX4_restore_25 : decode cX4_restore 25 = .ok (.ireturn, 1) := by decide +kernel
theorem dX4_restore_26 : decode cX4_restore 26 = .ok (.aload_n 0, 1) := by decide +kernel
theorem dX4_restore_27 : decode cX4_restore 27 = .ok (.getfield 10, 3) := by decide +kernel
theorem dX4_restore_30 : decode cX4_restore 30 = .ok (.aload_n 0, 1) := by decide +kernel
theorem dX4_restore_31 : decode cX4_restore 31 = .ok (.getfield 16, 3) := by decide +kernel
theorem dX4_restore_34 : decode cX4_restore 34 = .ok (.iload_n 1, 1) := by decide +kernel
theorem dX4_restore_35 : decode cX4_restore 35 = .ok (.aaload, 1) := by decide +kernel
theorem dX4_restore_36 : decode cX4_restore 36 = .ok (.invokevirtual 173, 3) := by decide +kernel
theorem dX4_restore_39 : decode cX4_restore 39 = .ok (.aload_n 0, 1) := by decide +kernel
theorem dX4_restore_40 : decode cX4_restore 40 = .ok (.iconst 0, 1) := by decide +kernel
theorem dX4_restore_41 : decode cX4_restore 41 = .ok (.putfield 48, 3) := by decide +kernel
theorem dX4_restore_44 : decode cX4_restore 44 = .ok (.iconst 1, 1) := by decide +kernel
theorem dX4_restore_45 : decode cX4_restore 45 = .ok (.ireturn, 1) := by decide +kernel
set_option maxRecDepth 20000 in
theorem ggX4_count_J6_bitCount_0f7a4 : GoodIn wsX4_count wsJ6_bitCount_0f7a4 := goodIn_r _ [8, 9, 10, 11] (by decide +kernel) (by decide +kernel)
set_option maxRecDepth 20000 in
theorem gX4_count_J6_bitCount_0f7a4 : GoodIn wsX4_count (va_wsS RX4 95 yJ6_bitCount_0f7a4 wsJ6_bitCount_0f7a4) := goodIn_app (goodIn_of _ (by decide +kernel)) ggX4_count_J6_bitCount_0f7a4
set_option maxRecDepth 20000 in
theorem ggX4_count_X3_howOftenUsed : GoodIn wsX4_count wsX3_howOftenUsed := goodIn_r _ [15, 16, 17, 18, 6, 7, 8, 9, 10, 11, 30, 31, 32, 33, 34] (by decide +kernel) (by decide +kernel)
set_option maxRecDepth 20000 in
theorem gX4_count_X3_howOftenUsed_n177 : GoodIn wsX4_count (wsX3_howOftenUsed) := ggX4_count_X3_howOftenUsed
set_option maxRecDepth 20000 in
theorem ggX4_count_X3_has : GoodIn wsX4_count wsX3_has := goodIn_r _ [21, 16, 30, 31, 32, 33, 34] (by decide +kernel) (by decide +kernel)
set_option maxRecDepth 20000 in
theorem gX4_count_X3_has_n100 : GoodIn wsX4_count (wsX3_has) := ggX4_count_X3_has
theorem dX4_count_0 : decode cX4_count 0 = .ok (.iload_n 1, 1) := by decide +kernel
theorem dX4_count_1 : decode cX4_count 1 = .ok (.tableswitch 96 0 6 #[43, 51, 59, 70, 78, 86, 91], 43) := by decide +kernel
theorem dX4_count_44 : decode cX4_count 44 = .ok (.aload_n 0, 1) := by decide +kernel
theorem dX4_count_45 : decode cX4_count 45 = .ok (.getfield 10, 3) := by decide +kernel
theorem dX4_count_48 : decode cX4_count 48 = .ok (.getfield 52, 3) := by decide +kernel
theorem dX4_count_51 : decode cX4_count 51 = .ok (.ireturn, 1) := by decide +kernel
theorem dX4_count_52 : decode cX4_count 52 = .ok (.aload_n 0, 1) := by decide +kernel
theorem dX4_count_53 : decode cX4_count 53 = .ok (.getfield 10, 3) := by decide +kernel
theorem dX4_count_56 : decode cX4_count 56 = .ok (.getfield 122, 3) := by decide +kernel
theorem dX4_count_59 : decode cX4_count 59 = .ok (.ireturn, 1) := by decide +kernel
theorem dX4_count_60 : decode cX4_count 60 = .ok (.aload_n 0, 1) := by decide +kernel
theorem dX4_count_61 : decode cX4_count 61 = .ok (.getfield 10, 3) := by decide +kernel
theorem dX4_count_64 : decode cX4_count 64 = .ok (.getfield 170, 3) := by decide +kernel
theorem dX4_count_67 : decode cX4_count 67 = .ok (.invokestatic 95, 3) := by decide +kernel
theorem dX4_count_70 : decode cX4_count 70 = .ok (.ireturn, 1) := by decide +kernel
theorem dX4_count_71 : decode cX4_count 71 = .ok (.aload_n 0, 1) := by decide +kernel
theorem dX4_count_72 : decode cX4_count 72 = .ok (.getfield 10, 3) := by decide +kernel
theorem dX4_count_75 : decode cX4_count 75 = .ok (.invokevirtual 177, 3) := by decide +kernel
theorem dX4_count_78 : decode cX4_count 78 = .ok (.ireturn, 1) := by decide +kernel
theorem dX4_count_79 : decode cX4_count 79 = .ok (.aload_n 0, 1) := by decide +kernel
theorem dX4_count_80 : decode cX4_count 80 = .ok (.getfield 23, 3) := by decide +kernel
theorem dX4_count_83 : decode cX4_count 83 = .ok (.getfield 59, 3) := by decide +kernel
theorem dX4_count_86 : decode cX4_count 86 = .ok (.ireturn, 1) := by decide +kernel
theorem dX4_count_87 : decode cX4_count 87 = .ok (.aload_n 0, 1) := by decide +kernel
theorem dX4_count_88 : decode cX4_count 88 = .ok (.getfield 45, 3) := by decide +kernel
theorem dX4_count_91 : decode cX4_count 91 = .ok (.ireturn, 1) := by decide +kernel
theorem dX4_count_92 : decode cX4_count 92 = .ok (.aload_n 0, 1) := by decide +kernel
theorem dX4_count_93 : decode cX4_count 93 = .ok (.getfield 41, 3) := by decide +kernel
theorem dX4_count_96 : decode cX4_count 96 = .ok (.ireturn, 1) := by decide +kernel
theorem dX4_count_97 : decode cX4_count 97 = .ok (.aload_n 0, 1) := by decide +kernel
theorem dX4_count_98 : decode cX4_count 98 = .ok (.getfield 10, 3) := by decide +kernel
theorem dX4_count_101 : decode cX4_count 101 = .ok (.iload_n 1, 1) := by decide +kernel
theorem dX4_count_102 : decode cX4_count 102 = .ok (.bipush 10, 2) := by decide +kernel
theorem dX4_count_104 : decode cX4_count 104 = .ok (.isub, 1) := by decide +kernel
theorem dX4_count_105 : decode cX4_count 105 = .ok (.invokevirtual 100, 3) := by decide +kernel
theorem dX4_count_108 : decode cX4_count 108 = .ok (.ifCond .eq 18, 3) := by decide +kernel
theorem dX4_count_111 : decode cX4_count 111 = .ok (.aload_n 0, 1) := by decide +kernel
theorem dX4_count_112 : decode cX4_count 112 = .ok (.getfield 10, 3) := by decide +kernel
theorem dX4_count_115 : decode cX4_count 115 = .ok (.getfield 106, 3) := by decide +kernel
theorem dX4_count_118 : decode cX4_count 118 = .ok (.iload_n 1, 1) := by decide +kernel
theorem dX4_count_119 : decode cX4_count 119 = .ok (.bipush 10, 2) := by decide +kernel
theorem dX4_count_121 : decode cX4_count 121 = .ok (.isub, 1) := by decide +kernel
theorem dX4_count_122 : decode cX4_count 122 = .ok (.iaload, 1) := by decide +kernel
theorem dX4_count_123 : decode cX4_count 123 = .ok (.goto 5, 3) := by decide +kernel
theorem dX4_count_126 : decode cX4_count 126 = .ok (.bipush (-2), 2) := by decide +kernel
theorem dX4_count_128 : decode cX4_count 128 = .ok (.ireturn, 1) := by decide +kernel
set_option maxRecDepth 20000 in
theorem ggX4_currentRings_X0_trace : GoodIn wsX4_currentRings wsX0_trace := goodIn_r _ [6, 7, 8, 9, 18, 19, 20, 21, 22, 23, 24, 25] (by decide +kernel) (by decide +kernel)
set_option maxRecDepth 20000 in
theorem gX4_currentRings_X0_trace_n180 : GoodIn wsX4_currentRings (wsX0_trace) := ggX4_currentRings_X0_trace
theorem dX4_currentRings_0 : decode cX4_currentRings 0 = .ok (.aload_n 0, 1) := by decide +kernel
theorem dX4_currentRings_1 : decode cX4_currentRings 1 = .ok (.getfield 30, 3) := by decide +kernel
theorem dX4_currentRings_4 : decode cX4_currentRings 4 = .ok (.aload_n 0, 1) := by decide +kernel
theorem dX4_currentRings_5 : decode cX4_currentRings 5 = .ok (.getfield 10, 3) := by decide +kernel
theorem dX4_currentRings_8 : decode cX4_currentRings 8 = .ok (.invokevirtual 180, 3) := by decide +kernel
theorem dX4_currentRings_11 : decode cX4_currentRings 11 = .ok (.aload_n 0, 1) := by decide +kernel
theorem dX4_currentRings_12 : decode cX4_currentRings 12 = .ok (.getfield 30, 3) := by decide +kernel
theorem dX4_currentRings_15 : decode cX4_currentRings 15 = .ok (.areturn, 1) := by decide +kernel
set_option maxRecDepth 20000 in
theorem ggX4_currentTellings_X4_currentRings : GoodIn wsX4_currentTellings wsX4_currentRings := goodIn_r _ [8, 9, 3, 10, 11, 12, 13, 14, 15, 16, 52, 53, 54, 55, 56, 57, 58, 59, 60, 61, 62, 63, 64, 65, 66, 67] (by decide +kernel) (by decide +kernel)
set_option maxRecDepth 20000 in
theorem gX4_currentTellings_X4_currentRings : GoodIn wsX4_currentTellings (wsV RX4 148 RX4 yX4_currentRings wsX4_currentRings) := goodIn_app (goodIn_of _ (by decide +kernel)) ggX4_currentTellings_X4_currentRings
set_option maxRecDepth 20000 in
theorem ggX4_currentTellings_X1_find : GoodIn wsX4_currentTellings wsX1_find := goodIn_r _ [20, 21, 22, 23, 24, 25, 26, 27, 28, 29, 30, 31, 32, 33, 34, 35, 36, 37, 18, 38, 39, 40, 41, 42, 43, 44, 45, 46, 47, 48, 49, 50, 51, 60, 61, 62, 63, 64, 68, 69, 70, 65, 66, 67] (by decide +kernel) (by decide +kernel)
set_option maxRecDepth 20000 in
theorem gX4_currentTellings_X1_find_n183 : GoodIn wsX4_currentTellings (wsX1_find) := ggX4_currentTellings_X1_find
theorem dX4_currentTellings_0 : decode cX4_currentTellings 0 = .ok (.aload_n 0, 1) := by decide +kernel
theorem dX4_currentTellings_1 : decode cX4_currentTellings 1 = .ok (.getfield 48, 3) := by decide +kernel
theorem dX4_currentTellings_4 : decode cX4_currentTellings 4 = .ok (.ifCond .ne 23, 3) := by decide +kernel
theorem dX4_currentTellings_7 : decode cX4_currentTellings 7 = .ok (.aload_n 0, 1) := by decide +kernel
theorem dX4_currentTellings_8 : decode cX4_currentTellings 8 = .ok (.getfield 37, 3) := by decide +kernel
theorem dX4_currentTellings_11 : decode cX4_currentTellings 11 = .ok (.aload_n 0, 1) := by decide +kernel
theorem dX4_currentTellings_12 : decode cX4_currentTellings 12 = .ok (.getfield 10, 3) := by decide +kernel
theorem dX4_currentTellings_15 : decode cX4_currentTellings 15 = .ok (.aload_n 0, 1) := by decide +kernel
theorem dX4_currentTellings_16 : decode cX4_currentTellings 16 = .ok (.invokevirtual 148, 3) := by decide +kernel
theorem dX4_currentTellings_19 : decode cX4_currentTellings 19 = .ok (.invokevirtual 183, 3) := by decide +kernel
theorem dX4_currentTellings_22 : decode cX4_currentTellings 22 = .ok (.aload_n 0, 1) := by decide +kernel
theorem dX4_currentTellings_23 : decode cX4_currentTellings 23 = .ok (.iconst 1, 1) := by decide +kernel
theorem dX4_currentTellings_24 : decode cX4_currentTellings 24 = .ok (.putfield 48, 3) := by decide +kernel
theorem dX4_currentTellings_27 : decode cX4_currentTellings 27 = .ok (.aload_n 0, 1) := by decide +kernel
theorem dX4_currentTellings_28 : decode cX4_currentTellings 28 = .ok (.getfield 37, 3) := by decide +kernel
theorem dX4_currentTellings_31 : decode cX4_currentTellings 31 = .ok (.areturn, 1) := by decide +kernel
theorem dX5_init_0 : decode cX5_init 0 = .ok (.aload_n 0, 1) := by decide +kernel
theorem dX5_init_1 : decode cX5_init 1 = .ok (.invokespecial 1, 3) := by decide +kernel
theorem dX5_init_4 : decode cX5_init 4 = .ok (.aload_n 0, 1) := by decide +kernel
theorem dX5_init_5 : decode cX5_init 5 = .ok (.bipush 8, 2) := by decide +kernel
theorem dX5_init_7 : decode cX5_init 7 = .ok (.putfield 7, 3) := by decide +kernel
theorem dX5_init_10 : decode cX5_init 10 = .ok (.aload_n 0, 1) := by decide +kernel
theorem dX5_init_11 : decode cX5_init 11 = .ok (.bipush 14, 2) := by decide +kernel
theorem dX5_init_13 : decode cX5_init 13 = .ok (.newarray .int, 2) := by decide +kernel
theorem dX5_init_15 : decode cX5_init 15 = .ok (.putfield 13, 3) := by decide +kernel
theorem dX5_init_18 : decode cX5_init 18 = .ok (.aload_n 0, 1) := by decide +kernel
theorem dX5_init_19 : decode cX5_init 19 = .ok (.bipush 14, 2) := by decide +kernel
theorem dX5_init_21 : decode cX5_init 21 = .ok (.newarray .int, 2) := by decide +kernel
theorem dX5_init_23 : decode cX5_init 23 = .ok (.putfield 17, 3) := by decide +kernel
theorem dX5_init_26 : decode cX5_init 26 = .ok (.aload_n 0, 1) := by decide +kernel
theorem dX5_init_27 : decode cX5_init 27 = .ok (.bipush 20, 2) := by decide +kernel
theorem dX5_init_29 : decode cX5_init 29 = .ok (.newarray .int, 2) := by decide +kernel
theorem dX5_init_31 : decode cX5_init 31 = .ok (.putfield 20, 3) := by decide +kernel
theorem dX5_init_34 : decode cX5_init 34 = .ok (.aload_n 0, 1) := by decide +kernel
theorem dX5_init_35 : decode cX5_init 35 = .ok (.bipush (-6), 2) := by decide +kernel
theorem dX5_init_37 : decode cX5_init 37 = .ok (.putfield 23, 3) := by decide +kernel
theorem dX5_init_40 : decode cX5_init 40 = .ok (.aload_n 0, 1) := by decide +kernel
theorem dX5_init_41 : decode cX5_init 41 = .ok (.sipush 16384, 3) := by decide +kernel
theorem dX5_init_44 : decode cX5_init 44 = .ok (.newarray .boolean, 2) := by decide +kernel
theorem dX5_init_46 : decode cX5_init 46 = .ok (.putfield 26, 3) := by decide +kernel
theorem dX5_init_49 : decode cX5_init 49 = .ok (.aload_n 0, 1) := by decide +kernel
theorem dX5_init_50 : decode cX5_init 50 = .ok (.bipush 60, 2) := by decide +kernel
theorem dX5_init_52 : decode cX5_init 52 = .ok (.newarray .int, 2) := by decide +kernel
theorem dX5_init_54 : decode cX5_init 54 = .ok (.putfield 30, 3) := by decide +kernel
theorem dX5_init_57 : decode cX5_init 57 = .ok (.aload_n 0, 1) := by decide +kernel
theorem dX5_init_58 : decode cX5_init 58 = .ok (.iconst 2, 1) := by decide +kernel
theorem dX5_init_59 : decode cX5_init 59 = .ok (.newarray .boolean, 2) := by decide +kernel
theorem dX5_init_61 : decode cX5_init 61 = .ok (.putfield 33, 3) := by decide +kernel
theorem dX5_init_64 : decode cX5_init 64 = .ok (.iconst 0, 1) := by decide +kernel
theorem dX5_init_65 : decode cX5_init 65 = .ok (.istore_n 1, 1) := by decide +kernel
theorem dX5_init_66 : decode cX5_init 66 = .ok (.iload_n 1, 1) := by decide +kernel
theorem dX5_init_67 : decode cX5_init 67 = .ok (.bipush 14, 2) := by decide +kernel
theorem dX5_init_69 : decode cX5_init 69 = .ok (.if_icmp .ge 24, 3) := by decide +kernel
theorem dX5_init_72 : decode cX5_init 72 = .ok (.aload_n 0, 1) := by decide +kernel
theorem dX5_init_73 : decode cX5_init 73 = .ok (.getfield 13, 3) := by decide +kernel
theorem dX5_init_76 : decode cX5_init 76 = .ok (.iload_n 1, 1) := by decide +kernel
theorem dX5_init_77 : decode cX5_init 77 = .ok (.bipush (-6), 2) := by decide +kernel
theorem dX5_init_79 : decode cX5_init 79 = .ok (.iastore, 1) := by decide +kernel
theorem dX5_init_80 : decode cX5_init 80 = .ok (.aload_n 0, 1) := by decide +kernel
theorem dX5_init_81 : decode cX5_init 81 = .ok (.getfield 17, 3) := by decide +kernel
theorem dX5_init_84 : decode cX5_init 84 = .ok (.iload_n 1, 1) := by decide +kernel
theorem dX5_init_85 : decode cX5_init 85 = .ok (.iconst 1, 1) := by decide +kernel
theorem dX5_init_86 : decode cX5_init 86 = .ok (.iastore, 1) := by decide +kernel
theorem dX5_init_87 : decode cX5_init 87 = .ok (.iinc 1 1, 3) := by decide +kernel
theorem dX5_init_90 : decode cX5_init 90 = .ok (.goto (-24), 3) := by decide +kernel
theorem dX5_init_93 : decode cX5_init 93 = .ok (.return_, 1) := by decide +kernel
theorem dX5_in_0 : decode cX5_in 0 = .ok (.iload_n 0, 1) := by decide +kernel
theorem dX5_in_1 : decode cX5_in 1 = .ok (.iload_n 1, 1) := by decide +kernel
theorem dX5_in_2 : decode cX5_in 2 = .ok (.if_icmp .lt 12, 3) := by decide +kernel
theorem dX5_in_5 : decode cX5_in 5 = .ok (.iload_n 0, 1) := by decide +kernel
theorem dX5_in_6 : decode cX5_in 6 = .ok (.iload_n 2, 1) := by decide +kernel
theorem dX5_in_7 : decode cX5_in 7 = .ok (.if_icmp .gt 7, 3) := by decide +kernel
theorem dX5_in_10 : decode cX5_in 10 = .ok (.iconst 1, 1) := by decide +kernel
theorem dX5_in_11 : decode cX5_in 11 = .ok (.goto 4, 3) := by decide +kernel
theorem dX5_in_14 : decode cX5_in 14 = .ok (.iconst 0, 1) := by decide +kernel
theorem dX5_in_15 : decode cX5_in 15 = .ok (.ireturn, 1) := by decide +kernel
set_option maxRecDepth 20000 in
theorem ggX5_isWord_X5_in : GoodIn wsX5_isWord wsX5_in := goodIn_r _ [5] (by decide +kernel) (by decide +kernel)
set_option maxRecDepth 20000 in
theorem gX5_isWord_X5_in : GoodIn wsX5_isWord (va_wsS RX5 36 yX5_in wsX5_in) := goodIn_app (goodIn_of _ (by decide +kernel)) ggX5_isWord_X5_in
theorem dX5_isWord_0 : decode cX5_isWord 0 = .ok (.iload_n 1, 1) := by decide +kernel
theorem dX5_isWord_1 : decode cX5_isWord 1 = .ok (.iconst 0, 1) := by decide +kernel
theorem dX5_isWord_2 : decode cX5_isWord 2 = .ok (.aload_n 0, 1) := by decide +kernel
theorem dX5_isWord_3 : decode cX5_isWord 3 = .ok (.getfield 7, 3) := by decide +kernel
theorem dX5_isWord_6 : decode cX5_isWord 6 = .ok (.iconst 1, 1) := by decide +kernel
theorem dX5_isWord_7 : decode cX5_isWord 7 = .ok (.isub, 1) := by decide +kernel
theorem dX5_isWord_8 : decode cX5_isWord 8 = .ok (.invokestatic 36, 3) := by decide +kernel
theorem dX5_isWord_11 : decode cX5_isWord 11 = .ok (.ireturn, 1) := by decide +kernel
theorem dX5_all_0 : decode cX5_all 0 = .ok (.iconst 1, 1) := by decide +kernel
theorem dX5_all_1 : decode cX5_all 1 = .ok (.aload_n 0, 1) := by decide +kernel
theorem dX5_all_2 : decode cX5_all 2 = .ok (.getfield 7, 3) := by decide +kernel
theorem dX5_all_5 : decode cX5_all 5 = .ok (.ishl, 1) := by decide +kernel
theorem dX5_all_6 : decode cX5_all 6 = .ok (.iconst 1, 1) := by decide +kernel
theorem dX5_all_7 : decode cX5_all 7 = .ok (.isub, 1) := by decide +kernel
theorem dX5_all_8 : decode cX5_all 8 = .ok (.ireturn, 1) := by decide +kernel
set_option maxRecDepth 20000 in
theorem ggX5_isSet_X5_all : GoodIn wsX5_isSet wsX5_all := goodIn_r _ [5, 6, 10, 11, 12, 13, 14, 15, 16, 17, 18, 19] (by decide +kernel) (by decide +kernel)
set_option maxRecDepth 20000 in
theorem gX5_isSet_X5_all : GoodIn wsX5_isSet (wsV RX5 40 RX5 yX5_all wsX5_all) := goodIn_app (goodIn_of _ (by decide +kernel)) ggX5_isSet_X5_all
set_option maxRecDepth 20000 in
theorem ggX5_isSet_X5_in : GoodIn wsX5_isSet wsX5_in := goodIn_r _ [9] (by decide +kernel) (by decide +kernel)
set_option maxRecDepth 20000 in
theorem gX5_isSet_X5_in : GoodIn wsX5_isSet (va_wsS RX5 36 yX5_in wsX5_in) := goodIn_app (goodIn_of _ (by decide +kernel)) ggX5_isSet_X5_in
theorem dX5_isSet_0 : decode cX5_isSet 0 = .ok (.iload_n 1, 1) := by decide +kernel
theorem dX5_isSet_1 : decode cX5_isSet 1 = .ok (.iconst 0, 1) := by decide +kernel
theorem dX5_isSet_2 : decode cX5_isSet 2 = .ok (.aload_n 0, 1) := by decide +kernel
theorem dX5_isSet_3 : decode cX5_isSet 3 = .ok (.invokevirtual 40, 3) := by decide +kernel
theorem dX5_isSet_6 : decode cX5_isSet 6 = .ok (.invokestatic 36, 3) := by decide +kernel
theorem dX5_isSet_9 : decode cX5_isSet 9 = .ok (.ireturn, 1) := by decide +kernel
theorem dX5_has_0 : decode cX5_has 0 = .ok (.iload_n 0, 1) := by decide +kernel
theorem dX5_has_1 : decode cX5_has 1 = .ok (.iload_n 1, 1) := by decide +kernel
theorem dX5_has_2 : decode cX5_has 2 = .ok (.ishr, 1) := by decide +kernel
theorem dX5_has_3 : decode cX5_has 3 = .ok (.iconst 1, 1) := by decide +kernel
theorem dX5_has_4 : decode cX5_has 4 = .ok (.iand, 1) := by decide +kernel
theorem dX5_has_5 : decode cX5_has 5 = .ok (.iconst 1, 1) := by decide +kernel
theorem dX5_has_6 : decode cX5_has 6 = .ok (.if_icmp .ne 7, 3) := by decide +kernel
theorem dX5_has_9 : decode cX5_has 9 = .ok (.iconst 1, 1) := by decide +kernel
theorem dX5_has_10 : decode cX5_has 10 = .ok (.goto 4, 3) := by decide +kernel
theorem dX5_has_13 : decode cX5_has 13 = .ok (.iconst 0, 1) := by decide +kernel
theorem dX5_has_14 : decode cX5_has 14 = .ok (.ireturn, 1) := by decide +kernel
theorem dX5_bits_0 : decode cX5_bits 0 = .ok (.iconst 0, 1) := by decide +kernel
theorem dX5_bits_1 : decode cX5_bits 1 = .ok (.istore_n 1, 1) := by decide +kernel
theorem dX5_bits_2 : decode cX5_bits 2 = .ok (.iconst 0, 1) := by decide +kernel
theorem dX5_bits_3 : decode cX5_bits 3 = .ok (.istore_n 2, 1) := by decide +kernel
theorem dX5_bits_4 : decode cX5_bits 4 = .ok (.iload_n 2, 1) := by decide +kernel
theorem dX5_bits_5 : decode cX5_bits 5 = .ok (.bipush 14, 2) := by decide +kernel
theorem dX5_bits_7 : decode cX5_bits 7 = .ok (.if_icmp .ge 17, 3) := by decide +kernel
theorem dX5_bits_10 : decode cX5_bits 10 = .ok (.iload_n 1, 1) := by decide +kernel
theorem dX5_bits_11 : decode cX5_bits 11 = .ok (.iload_n 0, 1) := by decide +kernel
theorem dX5_bits_12 : decode cX5_bits 12 = .ok (.iload_n 2, 1) := by decide +kernel
theorem dX5_bits_13 : decode cX5_bits 13 = .ok (.ishr, 1) := by decide +kernel
theorem dX5_bits_14 : decode cX5_bits 14 = .ok (.iconst 1, 1) := by decide +kernel
theorem dX5_bits_15 : decode cX5_bits 15 = .ok (.iand, 1) := by decide +kernel
theorem dX5_bits_16 : decode cX5_bits 16 = .ok (.iadd, 1) := by decide +kernel
theorem dX5_bits_17 : decode cX5_bits 17 = .ok (.istore_n 1, 1) := by decide +kernel
theorem dX5_bits_18 : decode cX5_bits 18 = .ok (.iinc 2 1, 3) := by decide +kernel
theorem dX5_bits_21 : decode cX5_bits 21 = .ok (.goto (-17), 3) := by decide +kernel
theorem dX5_bits_24 : decode cX5_bits 24 = .ok (.iload_n 1, 1) := by decide +kernel
theorem dX5_bits_25 : decode cX5_bits 25 = .ok (.ireturn, 1) := by decide +kernel
set_option maxRecDepth 20000 in
theorem ggX5_size_X5_in : GoodIn wsX5_size wsX5_in := goodIn_r _ [8] (by decide +kernel) (by decide +kernel)
set_option maxRecDepth 20000 in
theorem gX5_size_X5_in : GoodIn wsX5_size (va_wsS RX5 36 yX5_in wsX5_in) := goodIn_app (goodIn_of _ (by decide +kernel)) ggX5_size_X5_in
set_option maxRecDepth 20000 in
theorem ggX5_size_X5_all : GoodIn wsX5_size wsX5_all := goodIn_r _ [12, 1, 13, 14, 15, 16, 17, 18, 19, 20, 21, 22] (by decide +kernel) (by decide +kernel)
set_option maxRecDepth 20000 in
theorem gX5_size_X5_all : GoodIn wsX5_size (wsV RX5 40 RX5 yX5_all wsX5_all) := goodIn_app (goodIn_of _ (by decide +kernel)) ggX5_size_X5_all
theorem dX5_size_0 : decode cX5_size 0 = .ok (.iload_n 1, 1) := by decide +kernel
theorem dX5_size_1 : decode cX5_size 1 = .ok (.iconst 1, 1) := by decide +kernel
theorem dX5_size_2 : decode cX5_size 2 = .ok (.bipush 14, 2) := by decide +kernel
theorem dX5_size_4 : decode cX5_size 4 = .ok (.invokestatic 36, 3) := by decide +kernel
theorem dX5_size_7 : decode cX5_size 7 = .ok (.ifCond .ne 6, 3) := by decide +kernel
theorem dX5_size_10 : decode cX5_size 10 = .ok (.bipush (-2), 2) := by decide +kernel
theorem dX5_size_12 : decode cX5_size 12 = .ok (.ireturn, 1) := by decide +kernel
theorem dX5_size_13 : decode cX5_size 13 = .ok (.aload_n 0, 1) := by decide +kernel
theorem dX5_size_14 : decode cX5_size 14 = .ok (.getfield 7, 3) := by decide +kernel
theorem dX5_size_17 : decode cX5_size 17 = .ok (.istore_n 2, 1) := by decide +kernel
theorem dX5_size_18 : decode cX5_size 18 = .ok (.aload_n 0, 1) := by decide +kernel
theorem dX5_size_19 : decode cX5_size 19 = .ok (.iload_n 1, 1) := by decide +kernel
theorem dX5_size_20 : decode cX5_size 20 = .ok (.putfield 7, 3) := by decide +kernel
theorem dX5_size_23 : decode cX5_size 23 = .ok (.iconst 0, 1) := by decide +kernel
theorem dX5_size_24 : decode cX5_size 24 = .ok (.istore_n 3, 1) := by decide +kernel
theorem dX5_size_25 : decode cX5_size 25 = .ok (.iload_n 3, 1) := by decide +kernel
theorem dX5_size_26 : decode cX5_size 26 = .ok (.bipush 14, 2) := by decide +kernel
theorem dX5_size_28 : decode cX5_size 28 = .ok (.if_icmp .ge 54, 3) := by decide +kernel
theorem dX5_size_31 : decode cX5_size 31 = .ok (.iload_n 3, 1) := by decide +kernel
theorem dX5_size_32 : decode cX5_size 32 = .ok (.iload_n 1, 1) := by decide +kernel
theorem dX5_size_33 : decode cX5_size 33 = .ok (.if_icmp .lt 21, 3) := by decide +kernel
theorem dX5_size_36 : decode cX5_size 36 = .ok (.aload_n 0, 1) := by decide +kernel
theorem dX5_size_37 : decode cX5_size 37 = .ok (.getfield 13, 3) := by decide +kernel
theorem dX5_size_40 : decode cX5_size 40 = .ok (.iload_n 3, 1) := by decide +kernel
theorem dX5_size_41 : decode cX5_size 41 = .ok (.bipush (-6), 2) := by decide +kernel
theorem dX5_size_43 : decode cX5_size 43 = .ok (.iastore, 1) := by decide +kernel
theorem dX5_size_44 : decode cX5_size 44 = .ok (.aload_n 0, 1) := by decide +kernel
theorem dX5_size_45 : decode cX5_size 45 = .ok (.getfield 17, 3) := by decide +kernel
theorem dX5_size_48 : decode cX5_size 48 = .ok (.iload_n 3, 1) := by decide +kernel
theorem dX5_size_49 : decode cX5_size 49 = .ok (.iconst 1, 1) := by decide +kernel
theorem dX5_size_50 : decode cX5_size 50 = .ok (.iastore, 1) := by decide +kernel
theorem dX5_size_51 : decode cX5_size 51 = .ok (.goto 25, 3) := by decide +kernel
theorem dX5_size_54 : decode cX5_size 54 = .ok (.aload_n 0, 1) := by decide +kernel
theorem dX5_size_55 : decode cX5_size 55 = .ok (.getfield 13, 3) := by decide +kernel
theorem dX5_size_58 : decode cX5_size 58 = .ok (.iload_n 3, 1) := by decide +kernel
theorem dX5_size_59 : decode cX5_size 59 = .ok (.iaload, 1) := by decide +kernel
theorem dX5_size_60 : decode cX5_size 60 = .ok (.ifCond .lt 16, 3) := by decide +kernel
theorem dX5_size_63 : decode cX5_size 63 = .ok (.aload_n 0, 1) := by decide +kernel
theorem dX5_size_64 : decode cX5_size 64 = .ok (.getfield 13, 3) := by decide +kernel
theorem dX5_size_67 : decode cX5_size 67 = .ok (.iload_n 3, 1) := by decide +kernel
theorem dX5_size_68 : decode cX5_size 68 = .ok (.dup2, 1) := by decide +kernel
theorem dX5_size_69 : decode cX5_size 69 = .ok (.iaload, 1) := by decide +kernel
theorem dX5_size_70 : decode cX5_size 70 = .ok (.aload_n 0, 1) := by decide +kernel
theorem dX5_size_71 : decode cX5_size 71 = .ok (.invokevirtual 40, 3) := by decide +kernel
theorem dX5_size_74 : decode cX5_size 74 = .ok (.iand, 1) := by decide +kernel
theorem dX5_size_75 : decode cX5_size 75 = .ok (.iastore, 1) := by decide +kernel
theorem dX5_size_76 : decode cX5_size 76 = .ok (.iinc 3 1, 3) := by decide +kernel
theorem dX5_size_79 : decode cX5_size 79 = .ok (.goto (-54), 3) := by decide +kernel
theorem dX5_size_82 : decode cX5_size 82 = .ok (.aload_n 0, 1) := by decide +kernel
theorem dX5_size_83 : decode cX5_size 83 = .ok (.dup, 1) := by decide +kernel
theorem dX5_size_84 : decode cX5_size 84 = .ok (.getfield 44, 3) := by decide +kernel
theorem dX5_size_87 : decode cX5_size 87 = .ok (.aload_n 0, 1) := by decide +kernel
theorem dX5_size_88 : decode cX5_size 88 = .ok (.invokevirtual 40, 3) := by decide +kernel
theorem dX5_size_91 : decode cX5_size 91 = .ok (.iand, 1) := by decide +kernel
theorem dX5_size_92 : decode cX5_size 92 = .ok (.putfield 44, 3) := by decide +kernel
theorem dX5_size_95 : decode cX5_size 95 = .ok (.iload_n 2, 1) := by decide +kernel
theorem dX5_size_96 : decode cX5_size 96 = .ok (.ireturn, 1) := by decide +kernel
set_option maxRecDepth 20000 in
theorem ggX5_say_X5_in : GoodIn wsX5_say wsX5_in := goodIn_r _ [6] (by decide +kernel) (by decide +kernel)
set_option maxRecDepth 20000 in
theorem gX5_say_X5_in : GoodIn wsX5_say (va_wsS RX5 36 yX5_in wsX5_in) := goodIn_app (goodIn_of _ (by decide +kernel)) ggX5_say_X5_in
theorem dX5_say_0 : decode cX5_say 0 = .ok (.iload_n 1, 1) := by decide +kernel
theorem dX5_say_1 : decode cX5_say 1 = .ok (.bipush 33, 2) := by decide +kernel
theorem dX5_say_3 : decode cX5_say 3 = .ok (.bipush 126, 2) := by decide +kernel
theorem dX5_say_5 : decode cX5_say 5 = .ok (.invokestatic 36, 3) := by decide +kernel
theorem dX5_say_8 : decode cX5_say 8 = .ok (.ifCond .ne 6, 3) := by decide +kernel
theorem dX5_say_11 : decode cX5_say 11 = .ok (.bipush (-2), 2) := by decide +kernel
theorem dX5_say_13 : decode cX5_say 13 = .ok (.ireturn, 1) := by decide +kernel
theorem dX5_say_14 : decode cX5_say 14 = .ok (.aload_n 0, 1) := by decide +kernel
theorem dX5_say_15 : decode cX5_say 15 = .ok (.getfield 47, 3) := by decide +kernel
theorem dX5_say_18 : decode cX5_say 18 = .ok (.bipush 20, 2) := by decide +kernel
theorem dX5_say_20 : decode cX5_say 20 = .ok (.if_icmp .ne 6, 3) := by decide +kernel
theorem dX5_say_23 : decode cX5_say 23 = .ok (.bipush (-3), 2) := by decide +kernel
theorem dX5_say_25 : decode cX5_say 25 = .ok (.ireturn, 1) := by decide +kernel
theorem dX5_say_26 : decode cX5_say 26 = .ok (.aload_n 0, 1) := by decide +kernel
theorem dX5_say_27 : decode cX5_say 27 = .ok (.getfield 20, 3) := by decide +kernel
theorem dX5_say_30 : decode cX5_say 30 = .ok (.aload_n 0, 1) := by decide +kernel
theorem dX5_say_31 : decode cX5_say 31 = .ok (.getfield 47, 3) := by decide +kernel
theorem dX5_say_34 : decode cX5_say 34 = .ok (.iload_n 1, 1) := by decide +kernel
theorem dX5_say_35 : decode cX5_say 35 = .ok (.iastore, 1) := by decide +kernel
theorem dX5_say_36 : decode cX5_say 36 = .ok (.aload_n 0, 1) := by decide +kernel
theorem dX5_say_37 : decode cX5_say 37 = .ok (.dup, 1) := by decide +kernel
theorem dX5_say_38 : decode cX5_say 38 = .ok (.getfield 47, 3) := by decide +kernel
theorem dX5_say_41 : decode cX5_say 41 = .ok (.iconst 1, 1) := by decide +kernel
theorem dX5_say_42 : decode cX5_say 42 = .ok (.iadd, 1) := by decide +kernel
theorem dX5_say_43 : decode cX5_say 43 = .ok (.putfield 47, 3) := by decide +kernel
theorem dX5_say_46 : decode cX5_say 46 = .ok (.aload_n 0, 1) := by decide +kernel
theorem dX5_say_47 : decode cX5_say 47 = .ok (.getfield 47, 3) := by decide +kernel
theorem dX5_say_50 : decode cX5_say 50 = .ok (.ireturn, 1) := by decide +kernel
theorem dX5_wipe_0 : decode cX5_wipe 0 = .ok (.aload_n 0, 1) := by decide +kernel
theorem dX5_wipe_1 : decode cX5_wipe 1 = .ok (.getfield 47, 3) := by decide +kernel
theorem dX5_wipe_4 : decode cX5_wipe 4 = .ok (.istore_n 1, 1) := by decide +kernel
theorem dX5_wipe_5 : decode cX5_wipe 5 = .ok (.aload_n 0, 1) := by decide +kernel
theorem dX5_wipe_6 : decode cX5_wipe 6 = .ok (.iconst 0, 1) := by decide +kernel
theorem dX5_wipe_7 : decode cX5_wipe 7 = .ok (.putfield 47, 3) := by decide +kernel
theorem dX5_wipe_10 : decode cX5_wipe 10 = .ok (.iload_n 1, 1) := by decide +kernel
theorem dX5_wipe_11 : decode cX5_wipe 11 = .ok (.ireturn, 1) := by decide +kernel
theorem dX5_toldUpTo_0 : decode cX5_toldUpTo 0 = .ok (.iconst 0, 1) := by decide +kernel
theorem dX5_toldUpTo_1 : decode cX5_toldUpTo 1 = .ok (.istore_n 2, 1) := by decide +kernel
theorem dX5_toldUpTo_2 : decode cX5_toldUpTo 2 = .ok (.iconst 2, 1) := by decide +kernel
theorem dX5_toldUpTo_3 : decode cX5_toldUpTo 3 = .ok (.istore_n 3, 1) := by decide +kernel
theorem dX5_toldUpTo_4 : decode cX5_toldUpTo 4 = .ok (.iload_n 3, 1) := by decide +kernel
theorem dX5_toldUpTo_5 : decode cX5_toldUpTo 5 = .ok (.iload_n 1, 1) := by decide +kernel
theorem dX5_toldUpTo_6 : decode cX5_toldUpTo 6 = .ok (.if_icmp .ge 23, 3) := by decide +kernel
theorem dX5_toldUpTo_9 : decode cX5_toldUpTo 9 = .ok (.iload_n 2, 1) := by decide +kernel
theorem dX5_toldUpTo_10 : decode cX5_toldUpTo 10 = .ok (.iconst 1, 1) := by decide +kernel
theorem dX5_toldUpTo_11 : decode cX5_toldUpTo 11 = .ok (.aload_n 0, 1) := by decide +kernel
theorem dX5_toldUpTo_12 : decode cX5_toldUpTo 12 = .ok (.getfield 20, 3) := by decide +kernel
theorem dX5_toldUpTo_15 : decode cX5_toldUpTo 15 = .ok (.iload_n 3, 1) := by decide +kernel
theorem dX5_toldUpTo_16 : decode cX5_toldUpTo 16 = .ok (.iaload, 1) := by decide +kernel
theorem dX5_toldUpTo_17 : decode cX5_toldUpTo 17 = .ok (.bipush 97, 2) := by decide +kernel
theorem dX5_toldUpTo_19 : decode cX5_toldUpTo 19 = .ok (.isub, 1) := by decide +kernel
theorem dX5_toldUpTo_20 : decode cX5_toldUpTo 20 = .ok (.ishl, 1) := by decide +kernel
theorem dX5_toldUpTo_21 : decode cX5_toldUpTo 21 = .ok (.ior, 1) := by decide +kernel
theorem dX5_toldUpTo_22 : decode cX5_toldUpTo 22 = .ok (.istore_n 2, 1) := by decide +kernel
theorem dX5_toldUpTo_23 : decode cX5_toldUpTo 23 = .ok (.iinc 3 1, 3) := by decide +kernel
theorem dX5_toldUpTo_26 : decode cX5_toldUpTo 26 = .ok (.goto (-22), 3) := by decide +kernel
theorem dX5_toldUpTo_29 : decode cX5_toldUpTo 29 = .ok (.iload_n 2, 1) := by decide +kernel
theorem dX5_toldUpTo_30 : decode cX5_toldUpTo 30 = .ok (.ireturn, 1) := by decide +kernel
set_option maxRecDepth 20000 in
theorem ggX5_canStand_X5_isWord : GoodIn wsX5_canStand wsX5_isWord := goodIn_r _ [6, 7, 8, 9, 5, 10, 18, 19, 20, 21, 22, 23, 24, 25, 26, 27] (by decide +kernel) (by decide +kernel)
set_option maxRecDepth 20000 in
theorem gX5_canStand_X5_isWord : GoodIn wsX5_canStand (wsV RX5 50 RX5 yX5_isWord wsX5_isWord) := goodIn_app (goodIn_of _ (by decide +kernel)) ggX5_canStand_X5_isWord
set_option maxRecDepth 20000 in
theorem ggX5_canStand_X5_toldUpTo : GoodIn wsX5_canStand wsX5_toldUpTo := goodIn_r _ [14, 1, 18, 19, 20, 21, 22, 23, 24, 25, 26, 27] (by decide +kernel) (by decide +kernel)
set_option maxRecDepth 20000 in
theorem gX5_canStand_X5_toldUpTo : GoodIn wsX5_canStand (wsV RX5 54 RX5 yX5_toldUpTo wsX5_toldUpTo) := goodIn_app (goodIn_of _ (by decide +kernel)) ggX5_canStand_X5_toldUpTo
set_option maxRecDepth 20000 in
theorem ggX5_canStand_X5_has : GoodIn wsX5_canStand wsX5_has := goodIn_r _ [17] (by decide +kernel) (by decide +kernel)
set_option maxRecDepth 20000 in
theorem gX5_canStand_X5_has : GoodIn wsX5_canStand (va_wsS RX5 58 yX5_has wsX5_has) := goodIn_app (goodIn_of _ (by decide +kernel)) ggX5_canStand_X5_has
theorem dX5_canStand_0 : decode cX5_canStand 0 = .ok (.aload_n 0, 1) := by decide +kernel
theorem dX5_canStand_1 : decode cX5_canStand 1 = .ok (.getfield 20, 3) := by decide +kernel
theorem dX5_canStand_4 : decode cX5_canStand 4 = .ok (.iload_n 1, 1) := by decide +kernel
theorem dX5_canStand_5 : decode cX5_canStand 5 = .ok (.iaload, 1) := by decide +kernel
theorem dX5_canStand_6 : decode cX5_canStand 6 = .ok (.bipush 97, 2) := by decide +kernel
theorem dX5_canStand_8 : decode cX5_canStand 8 = .ok (.isub, 1) := by decide +kernel
theorem dX5_canStand_9 : decode cX5_canStand 9 = .ok (.istore_n 2, 1) := by decide +kernel
theorem dX5_canStand_10 : decode cX5_canStand 10 = .ok (.iload_n 1, 1) := by decide +kernel
theorem dX5_canStand_11 : decode cX5_canStand 11 = .ok (.ifCond .ne 9, 3) := by decide +kernel
theorem dX5_canStand_14 : decode cX5_canStand 14 = .ok (.aload_n 0, 1) := by decide +kernel
theorem dX5_canStand_15 : decode cX5_canStand 15 = .ok (.iload_n 2, 1) := by decide +kernel
theorem dX5_canStand_16 : decode cX5_canStand 16 = .ok (.invokevirtual 50, 3) := by decide +kernel
theorem dX5_canStand_19 : decode cX5_canStand 19 = .ok (.ireturn, 1) := by decide +kernel
theorem dX5_canStand_20 : decode cX5_canStand 20 = .ok (.iload_n 1, 1) := by decide +kernel
theorem dX5_canStand_21 : decode cX5_canStand 21 = .ok (.iconst 1, 1) := by decide +kernel
theorem dX5_canStand_22 : decode cX5_canStand 22 = .ok (.if_icmp .ne 31, 3) := by decide +kernel
theorem dX5_canStand_25 : decode cX5_canStand 25 = .ok (.aload_n 0, 1) := by decide +kernel
theorem dX5_canStand_26 : decode cX5_canStand 26 = .ok (.getfield 20, 3) := by decide +kernel
theorem dX5_canStand_29 : decode cX5_canStand 29 = .ok (.iconst 1, 1) := by decide +kernel
theorem dX5_canStand_30 : decode cX5_canStand 30 = .ok (.iaload, 1) := by decide +kernel
theorem dX5_canStand_31 : decode cX5_canStand 31 = .ok (.bipush 58, 2) := by decide +kernel
theorem dX5_canStand_33 : decode cX5_canStand 33 = .ok (.if_icmp .eq 14, 3) := by decide +kernel
theorem dX5_canStand_36 : decode cX5_canStand 36 = .ok (.aload_n 0, 1) := by decide +kernel
theorem dX5_canStand_37 : decode cX5_canStand 37 = .ok (.getfield 20, 3) := by decide +kernel
theorem dX5_canStand_40 : decode cX5_canStand 40 = .ok (.iconst 1, 1) := by decide +kernel
theorem dX5_canStand_41 : decode cX5_canStand 41 = .ok (.iaload, 1) := by decide +kernel
theorem dX5_canStand_42 : decode cX5_canStand 42 = .ok (.bipush 46, 2) := by decide +kernel
theorem dX5_canStand_44 : decode cX5_canStand 44 = .ok (.if_icmp .ne 7, 3) := by decide +kernel
theorem dX5_canStand_47 : decode cX5_canStand 47 = .ok (.iconst 1, 1) := by decide +kernel
theorem dX5_canStand_48 : decode cX5_canStand 48 = .ok (.goto 4, 3) := by decide +kernel
theorem dX5_canStand_51 : decode cX5_canStand 51 = .ok (.iconst 0, 1) := by decide +kernel
theorem dX5_canStand_52 : decode cX5_canStand 52 = .ok (.ireturn, 1) := by decide +kernel
theorem dX5_canStand_53 : decode cX5_canStand 53 = .ok (.aload_n 0, 1) := by decide +kernel
theorem dX5_canStand_54 : decode cX5_canStand 54 = .ok (.getfield 20, 3) := by decide +kernel
theorem dX5_canStand_57 : decode cX5_canStand 57 = .ok (.iconst 1, 1) := by decide +kernel
theorem dX5_canStand_58 : decode cX5_canStand 58 = .ok (.iaload, 1) := by decide +kernel
theorem dX5_canStand_59 : decode cX5_canStand 59 = .ok (.bipush 58, 2) := by decide +kernel
theorem dX5_canStand_61 : decode cX5_canStand 61 = .ok (.if_icmp .ne 27, 3) := by decide +kernel
theorem dX5_canStand_64 : decode cX5_canStand 64 = .ok (.aload_n 0, 1) := by decide +kernel
theorem dX5_canStand_65 : decode cX5_canStand 65 = .ok (.iload_n 2, 1) := by decide +kernel
theorem dX5_canStand_66 : decode cX5_canStand 66 = .ok (.invokevirtual 50, 3) := by decide +kernel
theorem dX5_canStand_69 : decode cX5_canStand 69 = .ok (.ifCond .eq 19, 3) := by decide +kernel
theorem dX5_canStand_72 : decode cX5_canStand 72 = .ok (.aload_n 0, 1) := by decide +kernel
theorem dX5_canStand_73 : decode cX5_canStand 73 = .ok (.iload_n 1, 1) := by decide +kernel
theorem dX5_canStand_74 : decode cX5_canStand 74 = .ok (.invokevirtual 54, 3) := by decide +kernel
theorem dX5_canStand_77 : decode cX5_canStand 77 = .ok (.iload_n 2, 1) := by decide +kernel
theorem dX5_canStand_78 : decode cX5_canStand 78 = .ok (.invokestatic 58, 3) := by decide +kernel
theorem dX5_canStand_81 : decode cX5_canStand 81 = .ok (.ifCond .ne 7, 3) := by decide +kernel
theorem dX5_canStand_84 : decode cX5_canStand 84 = .ok (.iconst 1, 1) := by decide +kernel
theorem dX5_canStand_85 : decode cX5_canStand 85 = .ok (.goto 4, 3) := by decide +kernel
theorem dX5_canStand_88 : decode cX5_canStand 88 = .ok (.iconst 0, 1) := by decide +kernel
theorem dX5_canStand_89 : decode cX5_canStand 89 = .ok (.ireturn, 1) := by decide +kernel
set_option maxRecDepth 20000 in
theorem ggX5_faultNow_X5_canStand : GoodIn wsX5_faultNow wsX5_canStand := goodIn_r _ [6, 7, 8, 9, 10, 5, 11, 12, 13, 14, 15, 16, 17, 18, 19, 20, 21, 22, 23, 24, 25, 26, 27, 28, 29, 30, 31, 32] (by decide +kernel) (by decide +kernel)
set_option maxRecDepth 20000 in
theorem gX5_faultNow_X5_canStand : GoodIn wsX5_faultNow (wsV RX5 62 RX5 yX5_canStand wsX5_canStand) := goodIn_app (goodIn_of _ (by decide +kernel)) ggX5_faultNow_X5_canStand
theorem dX5_faultNow_0 : decode cX5_faultNow 0 = .ok (.iconst 0, 1) := by decide +kernel
theorem dX5_faultNow_1 : decode cX5_faultNow 1 = .ok (.istore_n 1, 1) := by decide +kernel
theorem dX5_faultNow_2 : decode cX5_faultNow 2 = .ok (.iload_n 1, 1) := by decide +kernel
theorem dX5_faultNow_3 : decode cX5_faultNow 3 = .ok (.aload_n 0, 1) := by decide +kernel
theorem dX5_faultNow_4 : decode cX5_faultNow 4 = .ok (.getfield 47, 3) := by decide +kernel
theorem dX5_faultNow_7 : decode cX5_faultNow 7 = .ok (.if_icmp .ge 19, 3) := by decide +kernel
theorem dX5_faultNow_10 : decode cX5_faultNow 10 = .ok (.aload_n 0, 1) := by decide +kernel
theorem dX5_faultNow_11 : decode cX5_faultNow 11 = .ok (.iload_n 1, 1) := by decide +kernel
theorem dX5_faultNow_12 : decode cX5_faultNow 12 = .ok (.invokevirtual 62, 3) := by decide +kernel
theorem dX5_faultNow_15 : decode cX5_faultNow 15 = .ok (.ifCond .ne 5, 3) := by decide +kernel
theorem dX5_faultNow_18 : decode cX5_faultNow 18 = .ok (.iload_n 1, 1) := by decide +kernel
theorem dX5_faultNow_19 : decode cX5_faultNow 19 = .ok (.ireturn, 1) := by decide +kernel
theorem dX5_faultNow_20 : decode cX5_faultNow 20 = .ok (.iinc 1 1, 3) := by decide +kernel
theorem dX5_faultNow_23 : decode cX5_faultNow 23 = .ok (.goto (-21), 3) := by decide +kernel
theorem dX5_faultNow_26 : decode cX5_faultNow 26 = .ok (.aload_n 0, 1) := by decide +kernel
theorem dX5_faultNow_27 : decode cX5_faultNow 27 = .ok (.getfield 47, 3) := by decide +kernel
theorem dX5_faultNow_30 : decode cX5_faultNow 30 = .ok (.iconst 2, 1) := by decide +kernel
theorem dX5_faultNow_31 : decode cX5_faultNow 31 = .ok (.if_icmp .ge 10, 3) := by decide +kernel
theorem dX5_faultNow_34 : decode cX5_faultNow 34 = .ok (.aload_n 0, 1) := by decide +kernel
theorem dX5_faultNow_35 : decode cX5_faultNow 35 = .ok (.getfield 47, 3) := by decide +kernel
theorem dX5_faultNow_38 : decode cX5_faultNow 38 = .ok (.goto 5, 3) := by decide +kernel
theorem dX5_faultNow_41 : decode cX5_faultNow 41 = .ok (.bipush (-6), 2) := by decide +kernel
theorem dX5_faultNow_43 : decode cX5_faultNow 43 = .ok (.ireturn, 1) := by decide +kernel
set_option maxRecDepth 20000 in
theorem ggX5_define_X5_faultNow : GoodIn wsX5_define wsX5_faultNow := goodIn_r _ [9, 4, 10, 11, 12, 8, 13, 2, 14, 15, 16, 17, 18, 19, 20, 21, 22, 23, 24, 25, 26, 27, 28, 32, 33, 34, 35, 36, 37, 38, 39, 40, 41] (by decide +kernel) (by decide +kernel)
set_option maxRecDepth 20000 in
theorem gX5_define_X5_faultNow : GoodIn wsX5_define (wsV RX5 65 RX5 yX5_faultNow wsX5_faultNow) := goodIn_app (goodIn_of _ (by decide +kernel)) ggX5_define_X5_faultNow
set_option maxRecDepth 20000 in
theorem ggX5_define_X5_toldUpTo : GoodIn wsX5_define wsX5_toldUpTo := goodIn_r _ [25, 2, 32, 33, 34, 35, 36, 37, 38, 39, 40, 41] (by decide +kernel) (by decide +kernel)
set_option maxRecDepth 20000 in
theorem gX5_define_X5_toldUpTo : GoodIn wsX5_define (wsV RX5 54 RX5 yX5_toldUpTo wsX5_toldUpTo) := goodIn_app (goodIn_of _ (by decide +kernel)) ggX5_define_X5_toldUpTo
set_option maxRecDepth 20000 in
theorem ggX5_define_X5_bits : GoodIn wsX5_define wsX5_bits := goodIn_r _ [31] (by decide +kernel) (by decide +kernel)
set_option maxRecDepth 20000 in
theorem gX5_define_X5_bits : GoodIn wsX5_define (va_wsS RX5 68 yX5_bits wsX5_bits) := goodIn_app (goodIn_of _ (by decide +kernel)) ggX5_define_X5_bits
theorem dX5_define_0 : decode cX5_define 0 = .ok (.aload_n 0, 1) := by decide +kernel
theorem dX5_define_1 : decode cX5_define 1 = .ok (.invokevirtual 65, 3) := by decide +kernel
theorem dX5_define_4 : decode cX5_define 4 = .ok (.istore_n 1, 1) := by decide +kernel
theorem dX5_define_5 : decode cX5_define 5 = .ok (.iload_n 1, 1) := by decide +kernel
theorem dX5_define_6 : decode cX5_define 6 = .ok (.ifCond .lt 11, 3) := by decide +kernel
theorem dX5_define_9 : decode cX5_define 9 = .ok (.aload_n 0, 1) := by decide +kernel
theorem dX5_define_10 : decode cX5_define 10 = .ok (.iload_n 1, 1) := by decide +kernel
theorem dX5_define_11 : decode cX5_define 11 = .ok (.putfield 23, 3) := by decide +kernel
theorem dX5_define_14 : decode cX5_define 14 = .ok (.bipush (-7), 2) := by decide +kernel
theorem dX5_define_16 : decode cX5_define 16 = .ok (.ireturn, 1) := by decide +kernel
theorem dX5_define_17 : decode cX5_define 17 = .ok (.aload_n 0, 1) := by decide +kernel
theorem dX5_define_18 : decode cX5_define 18 = .ok (.getfield 20, 3) := by decide +kernel
theorem dX5_define_21 : decode cX5_define 21 = .ok (.iconst 0, 1) := by decide +kernel
theorem dX5_define_22 : decode cX5_define 22 = .ok (.iaload, 1) := by decide +kernel
theorem dX5_define_23 : decode cX5_define 23 = .ok (.bipush 97, 2) := by decide +kernel
theorem dX5_define_25 : decode cX5_define 25 = .ok (.isub, 1) := by decide +kernel
theorem dX5_define_26 : decode cX5_define 26 = .ok (.istore_n 2, 1) := by decide +kernel
theorem dX5_define_27 : decode cX5_define 27 = .ok (.aload_n 0, 1) := by decide +kernel
theorem dX5_define_28 : decode cX5_define 28 = .ok (.getfield 13, 3) := by decide +kernel
theorem dX5_define_31 : decode cX5_define 31 = .ok (.iload_n 2, 1) := by decide +kernel
theorem dX5_define_32 : decode cX5_define 32 = .ok (.aload_n 0, 1) := by decide +kernel
theorem dX5_define_33 : decode cX5_define 33 = .ok (.getfield 20, 3) := by decide +kernel
theorem dX5_define_36 : decode cX5_define 36 = .ok (.iconst 1, 1) := by decide +kernel
theorem dX5_define_37 : decode cX5_define 37 = .ok (.iaload, 1) := by decide +kernel
theorem dX5_define_38 : decode cX5_define 38 = .ok (.bipush 46, 2) := by decide +kernel
theorem dX5_define_40 : decode cX5_define 40 = .ok (.if_icmp .ne 8, 3) := by decide +kernel
theorem dX5_define_43 : decode cX5_define 43 = .ok (.bipush (-6), 2) := by decide +kernel
theorem dX5_define_45 : decode cX5_define 45 = .ok (.goto 11, 3) := by decide +kernel
theorem dX5_define_48 : decode cX5_define 48 = .ok (.aload_n 0, 1) := by decide +kernel
theorem dX5_define_49 : decode cX5_define 49 = .ok (.aload_n 0, 1) := by decide +kernel
theorem dX5_define_50 : decode cX5_define 50 = .ok (.getfield 47, 3) := by decide +kernel
theorem dX5_define_53 : decode cX5_define 53 = .ok (.invokevirtual 54, 3) := by decide +kernel
theorem dX5_define_56 : decode cX5_define 56 = .ok (.iastore, 1) := by decide +kernel
theorem dX5_define_57 : decode cX5_define 57 = .ok (.aload_n 0, 1) := by decide +kernel
theorem dX5_define_58 : decode cX5_define 58 = .ok (.iconst 0, 1) := by decide +kernel
theorem dX5_define_59 : decode cX5_define 59 = .ok (.putfield 47, 3) := by decide +kernel
theorem dX5_define_62 : decode cX5_define 62 = .ok (.aload_n 0, 1) := by decide +kernel
theorem dX5_define_63 : decode cX5_define 63 = .ok (.getfield 13, 3) := by decide +kernel
theorem dX5_define_66 : decode cX5_define 66 = .ok (.iload_n 2, 1) := by decide +kernel
theorem dX5_define_67 : decode cX5_define 67 = .ok (.iaload, 1) := by decide +kernel
theorem dX5_define_68 : decode cX5_define 68 = .ok (.ifCond .ge 8, 3) := by decide +kernel
theorem dX5_define_71 : decode cX5_define 71 = .ok (.bipush (-6), 2) := by decide +kernel
theorem dX5_define_73 : decode cX5_define 73 = .ok (.goto 12, 3) := by decide +kernel
theorem dX5_define_76 : decode cX5_define 76 = .ok (.aload_n 0, 1) := by decide +kernel
theorem dX5_define_77 : decode cX5_define 77 = .ok (.getfield 13, 3) := by decide +kernel
theorem dX5_define_80 : decode cX5_define 80 = .ok (.iload_n 2, 1) := by decide +kernel
theorem dX5_define_81 : decode cX5_define 81 = .ok (.iaload, 1) := by decide +kernel
theorem dX5_define_82 : decode cX5_define 82 = .ok (.invokestatic 68, 3) := by decide +kernel
theorem dX5_define_85 : decode cX5_define 85 = .ok (.ireturn, 1) := by decide +kernel
set_option maxRecDepth 20000 in
theorem ggX5_fault_X5_faultNow : GoodIn wsX5_fault wsX5_faultNow := goodIn_r _ [5, 6, 7, 8, 9, 4, 10, 11, 12, 13, 14, 15, 16, 17, 18, 19, 20, 21, 22, 23, 24, 25, 26, 27, 28, 29, 30, 31, 32, 33, 34, 35, 36] (by decide +kernel) (by decide +kernel)
set_option maxRecDepth 20000 in
theorem gX5_fault_X5_faultNow : GoodIn wsX5_fault (wsV RX5 65 RX5 yX5_faultNow wsX5_faultNow) := goodIn_app (goodIn_of _ (by decide +kernel)) ggX5_fault_X5_faultNow
theorem dX5_fault_0 : decode cX5_fault 0 = .ok (.aload_n 0, 1) := by decide +kernel
theorem dX5_fault_1 : decode cX5_fault 1 = .ok (.invokevirtual 65, 3) := by decide +kernel
theorem dX5_fault_4 : decode cX5_fault 4 = .ok (.ireturn, 1) := by decide +kernel
set_option maxRecDepth 20000 in
theorem ggX5_uses_X5_isWord : GoodIn wsX5_uses wsX5_isWord := goodIn_r _ [6, 7, 8, 9, 5, 10, 11, 12, 13, 14, 15, 16, 17, 18, 19, 20] (by decide +kernel) (by decide +kernel)
set_option maxRecDepth 20000 in
theorem gX5_uses_X5_isWord : GoodIn wsX5_uses (wsV RX5 50 RX5 yX5_isWord wsX5_isWord) := goodIn_app (goodIn_of _ (by decide +kernel)) ggX5_uses_X5_isWord
theorem dX5_uses_0 : decode cX5_uses 0 = .ok (.aload_n 0, 1) := by decide +kernel
theorem dX5_uses_1 : decode cX5_uses 1 = .ok (.iload_n 1, 1) := by decide +kernel
theorem dX5_uses_2 : decode cX5_uses 2 = .ok (.invokevirtual 50, 3) := by decide +kernel
theorem dX5_uses_5 : decode cX5_uses 5 = .ok (.ifCond .eq 12, 3) := by decide +kernel
theorem dX5_uses_8 : decode cX5_uses 8 = .ok (.aload_n 0, 1) := by decide +kernel
theorem dX5_uses_9 : decode cX5_uses 9 = .ok (.getfield 13, 3) := by decide +kernel
theorem dX5_uses_12 : decode cX5_uses 12 = .ok (.iload_n 1, 1) := by decide +kernel
theorem dX5_uses_13 : decode cX5_uses 13 = .ok (.iaload, 1) := by decide +kernel
theorem dX5_uses_14 : decode cX5_uses 14 = .ok (.goto 4, 3) := by decide +kernel
theorem dX5_uses_17 : decode cX5_uses 17 = .ok (.iconst (-1), 1) := by decide +kernel
theorem dX5_uses_18 : decode cX5_uses 18 = .ok (.ireturn, 1) := by decide +kernel
set_option maxRecDepth 20000 in
theorem ggX5_isUsed_X5_has : GoodIn wsX5_isUsed wsX5_has := goodIn_r _ [5] (by decide +kernel) (by decide +kernel)
set_option maxRecDepth 20000 in
theorem gX5_isUsed_X5_has : GoodIn wsX5_isUsed (va_wsS RX5 58 yX5_has wsX5_has) := goodIn_app (goodIn_of _ (by decide +kernel)) ggX5_isUsed_X5_has
theorem dX5_isUsed_0 : decode cX5_isUsed 0 = .ok (.aload_n 0, 1) := by decide +kernel
theorem dX5_isUsed_1 : decode cX5_isUsed 1 = .ok (.getfield 13, 3) := by decide +kernel
theorem dX5_isUsed_4 : decode cX5_isUsed 4 = .ok (.iload_n 1, 1) := by decide +kernel
theorem dX5_isUsed_5 : decode cX5_isUsed 5 = .ok (.iaload, 1) := by decide +kernel
theorem dX5_isUsed_6 : decode cX5_isUsed 6 = .ok (.ifCond .lt 20, 3) := by decide +kernel
theorem dX5_isUsed_9 : decode cX5_isUsed 9 = .ok (.aload_n 0, 1) := by decide +kernel
theorem dX5_isUsed_10 : decode cX5_isUsed 10 = .ok (.getfield 13, 3) := by decide +kernel
theorem dX5_isUsed_13 : decode cX5_isUsed 13 = .ok (.iload_n 1, 1) := by decide +kernel
theorem dX5_isUsed_14 : decode cX5_isUsed 14 = .ok (.iaload, 1) := by decide +kernel
theorem dX5_isUsed_15 : decode cX5_isUsed 15 = .ok (.iload_n 2, 1) := by decide +kernel
theorem dX5_isUsed_16 : decode cX5_isUsed 16 = .ok (.invokestatic 58, 3) := by decide +kernel
theorem dX5_isUsed_19 : decode cX5_isUsed 19 = .ok (.ifCond .eq 7, 3) := by decide +kernel
theorem dX5_isUsed_22 : decode cX5_isUsed 22 = .ok (.iconst 1, 1) := by decide +kernel
theorem dX5_isUsed_23 : decode cX5_isUsed 23 = .ok (.goto 4, 3) := by decide +kernel
theorem dX5_isUsed_26 : decode cX5_isUsed 26 = .ok (.iconst 0, 1) := by decide +kernel
theorem dX5_isUsed_27 : decode cX5_isUsed 27 = .ok (.ireturn, 1) := by decide +kernel
set_option maxRecDepth 20000 in
theorem ggX5_usersOf_X5_isUsed : GoodIn wsX5_usersOf wsX5_isUsed := goodIn_r _ [6, 7, 8, 9, 5, 10, 11, 12, 13, 14, 15, 16, 17, 18, 19, 20] (by decide +kernel) (by decide +kernel)
set_option maxRecDepth 20000 in
theorem gX5_usersOf_X5_isUsed : GoodIn wsX5_usersOf (wsV RX5 71 RX5 yX5_isUsed wsX5_isUsed) := goodIn_app (goodIn_of _ (by decide +kernel)) ggX5_usersOf_X5_isUsed
theorem dX5_usersOf_0 : decode cX5_usersOf 0 = .ok (.iconst 0, 1) := by decide +kernel
theorem dX5_usersOf_1 : decode cX5_usersOf 1 = .ok (.istore_n 2, 1) := by decide +kernel
theorem dX5_usersOf_2 : decode cX5_usersOf 2 = .ok (.iconst 0, 1) := by decide +kernel
theorem dX5_usersOf_3 : decode cX5_usersOf 3 = .ok (.istore_n 3, 1) := by decide +kernel
theorem dX5_usersOf_4 : decode cX5_usersOf 4 = .ok (.iload_n 3, 1) := by decide +kernel
theorem dX5_usersOf_5 : decode cX5_usersOf 5 = .ok (.aload_n 0, 1) := by decide +kernel
theorem dX5_usersOf_6 : decode cX5_usersOf 6 = .ok (.getfield 7, 3) := by decide +kernel
theorem dX5_usersOf_9 : decode cX5_usersOf 9 = .ok (.if_icmp .ge 28, 3) := by decide +kernel
theorem dX5_usersOf_12 : decode cX5_usersOf 12 = .ok (.iload_n 2, 1) := by decide +kernel
theorem dX5_usersOf_13 : decode cX5_usersOf 13 = .ok (.aload_n 0, 1) := by decide +kernel
theorem dX5_usersOf_14 : decode cX5_usersOf 14 = .ok (.iload_n 3, 1) := by decide +kernel
theorem dX5_usersOf_15 : decode cX5_usersOf 15 = .ok (.iload_n 1, 1) := by decide +kernel
theorem dX5_usersOf_16 : decode cX5_usersOf 16 = .ok (.invokevirtual 71, 3) := by decide +kernel
theorem dX5_usersOf_19 : decode cX5_usersOf 19 = .ok (.ifCond .eq 9, 3) := by decide +kernel
theorem dX5_usersOf_22 : decode cX5_usersOf 22 = .ok (.iconst 1, 1) := by decide +kernel
theorem dX5_usersOf_23 : decode cX5_usersOf 23 = .ok (.iload_n 3, 1) := by decide +kernel
theorem dX5_usersOf_24 : decode cX5_usersOf 24 = .ok (.ishl, 1) := by decide +kernel
theorem dX5_usersOf_25 : decode cX5_usersOf 25 = .ok (.goto 4, 3) := by decide +kernel
theorem dX5_usersOf_28 : decode cX5_usersOf 28 = .ok (.iconst 0, 1) := by decide +kernel
theorem dX5_usersOf_29 : decode cX5_usersOf 29 = .ok (.ior, 1) := by decide +kernel
theorem dX5_usersOf_30 : decode cX5_usersOf 30 = .ok (.istore_n 2, 1) := by decide +kernel
theorem dX5_usersOf_31 : decode cX5_usersOf 31 = .ok (.iinc 3 1, 3) := by decide +kernel
theorem dX5_usersOf_34 : decode cX5_usersOf 34 = .ok (.goto (-30), 3) := by decide +kernel
theorem dX5_usersOf_37 : decode cX5_usersOf 37 = .ok (.iload_n 2, 1) := by decide +kernel
theorem dX5_usersOf_38 : decode cX5_usersOf 38 = .ok (.ireturn, 1) := by decide +kernel
set_option maxRecDepth 20000 in
theorem ggX5_users_X5_isWord : GoodIn wsX5_users wsX5_isWord := goodIn_r _ [5, 6, 7, 8, 4, 9, 22, 23, 24, 25, 26, 27, 28, 29, 30, 31] (by decide +kernel) (by decide +kernel)
set_option maxRecDepth 20000 in
theorem gX5_users_X5_isWord : GoodIn wsX5_users (wsV RX5 50 RX5 yX5_isWord wsX5_isWord) := goodIn_app (goodIn_of _ (by decide +kernel)) ggX5_users_X5_isWord
set_option maxRecDepth 20000 in
theorem ggX5_users_X5_usersOf : GoodIn wsX5_users wsX5_usersOf := goodIn_r _ [13, 6, 14, 15, 16, 4, 17, 18, 19, 20, 21, 22, 23, 24, 25, 26, 27, 28, 29, 30, 31] (by decide +kernel) (by decide +kernel)
set_option maxRecDepth 20000 in
theorem gX5_users_X5_usersOf : GoodIn wsX5_users (wsV RX5 74 RX5 yX5_usersOf wsX5_usersOf) := goodIn_app (goodIn_of _ (by decide +kernel)) ggX5_users_X5_usersOf
theorem dX5_users_0 : decode cX5_users 0 = .ok (.aload_n 0, 1) := by decide +kernel
theorem dX5_users_1 : decode cX5_users 1 = .ok (.iload_n 1, 1) := by decide +kernel
theorem dX5_users_2 : decode cX5_users 2 = .ok (.invokevirtual 50, 3) := by decide +kernel
theorem dX5_users_5 : decode cX5_users 5 = .ok (.ifCond .eq 11, 3) := by decide +kernel
theorem dX5_users_8 : decode cX5_users 8 = .ok (.aload_n 0, 1) := by decide +kernel
theorem dX5_users_9 : decode cX5_users 9 = .ok (.iload_n 1, 1) := by decide +kernel
theorem dX5_users_10 : decode cX5_users 10 = .ok (.invokevirtual 74, 3) := by decide +kernel
theorem dX5_users_13 : decode cX5_users 13 = .ok (.goto 4, 3) := by decide +kernel
theorem dX5_users_16 : decode cX5_users 16 = .ok (.iconst (-1), 1) := by decide +kernel
theorem dX5_users_17 : decode cX5_users 17 = .ok (.ireturn, 1) := by decide +kernel
set_option maxRecDepth 20000 in
theorem ggX5_cost_X5_isWord : GoodIn wsX5_cost wsX5_isWord := goodIn_r _ [6, 7, 8, 9, 5, 10, 11, 12, 13, 14, 15, 16, 17, 18, 19, 20] (by decide +kernel) (by decide +kernel)
set_option maxRecDepth 20000 in
theorem gX5_cost_X5_isWord : GoodIn wsX5_cost (wsV RX5 50 RX5 yX5_isWord wsX5_isWord) := goodIn_app (goodIn_of _ (by decide +kernel)) ggX5_cost_X5_isWord
set_option maxRecDepth 20000 in
theorem ggX5_cost_X5_in : GoodIn wsX5_cost wsX5_in := goodIn_r _ [10] (by decide +kernel) (by decide +kernel)
set_option maxRecDepth 20000 in
theorem gX5_cost_X5_in : GoodIn wsX5_cost (va_wsS RX5 36 yX5_in wsX5_in) := goodIn_app (goodIn_of _ (by decide +kernel)) ggX5_cost_X5_in
theorem dX5_cost_0 : decode cX5_cost 0 = .ok (.aload_n 0, 1) := by decide +kernel
theorem dX5_cost_1 : decode cX5_cost 1 = .ok (.iload_n 1, 1) := by decide +kernel
theorem dX5_cost_2 : decode cX5_cost 2 = .ok (.invokevirtual 50, 3) := by decide +kernel
theorem dX5_cost_5 : decode cX5_cost 5 = .ok (.ifCond .ne 5, 3) := by decide +kernel
theorem dX5_cost_8 : decode cX5_cost 8 = .ok (.iconst (-1), 1) := by decide +kernel
theorem dX5_cost_9 : decode cX5_cost 9 = .ok (.ireturn, 1) := by decide +kernel
theorem dX5_cost_10 : decode cX5_cost 10 = .ok (.iload_n 2, 1) := by decide +kernel
theorem dX5_cost_11 : decode cX5_cost 11 = .ok (.iconst 1, 1) := by decide +kernel
theorem dX5_cost_12 : decode cX5_cost 12 = .ok (.bipush 9, 2) := by decide +kernel
theorem dX5_cost_14 : decode cX5_cost 14 = .ok (.invokestatic 36, 3) := by decide +kernel
theorem dX5_cost_17 : decode cX5_cost 17 = .ok (.ifCond .ne 6, 3) := by decide +kernel
theorem dX5_cost_20 : decode cX5_cost 20 = .ok (.bipush (-2), 2) := by decide +kernel
theorem dX5_cost_22 : decode cX5_cost 22 = .ok (.ireturn, 1) := by decide +kernel
theorem dX5_cost_23 : decode cX5_cost 23 = .ok (.aload_n 0, 1) := by decide +kernel
theorem dX5_cost_24 : decode cX5_cost 24 = .ok (.getfield 17, 3) := by decide +kernel
theorem dX5_cost_27 : decode cX5_cost 27 = .ok (.iload_n 1, 1) := by decide +kernel
theorem dX5_cost_28 : decode cX5_cost 28 = .ok (.iaload, 1) := by decide +kernel
theorem dX5_cost_29 : decode cX5_cost 29 = .ok (.istore_n 3, 1) := by decide +kernel
theorem dX5_cost_30 : decode cX5_cost 30 = .ok (.aload_n 0, 1) := by decide +kernel
theorem dX5_cost_31 : decode cX5_cost 31 = .ok (.getfield 17, 3) := by decide +kernel
theorem dX5_cost_34 : decode cX5_cost 34 = .ok (.iload_n 1, 1) := by decide +kernel
theorem dX5_cost_35 : decode cX5_cost 35 = .ok (.iload_n 2, 1) := by decide +kernel
theorem dX5_cost_36 : decode cX5_cost 36 = .ok (.iastore, 1) := by decide +kernel
theorem dX5_cost_37 : decode cX5_cost 37 = .ok (.iload_n 3, 1) := by decide +kernel
theorem dX5_cost_38 : decode cX5_cost 38 = .ok (.ireturn, 1) := by decide +kernel
theorem dX5_after_0 : decode cX5_after 0 = .ok (.iload_n 1, 1) := by decide +kernel
theorem dX5_after_1 : decode cX5_after 1 = .ok (.istore_n 2, 1) := by decide +kernel
theorem dX5_after_2 : decode cX5_after 2 = .ok (.iconst 0, 1) := by decide +kernel
theorem dX5_after_3 : decode cX5_after 3 = .ok (.istore_n 3, 1) := by decide +kernel
theorem dX5_after_4 : decode cX5_after 4 = .ok (.iload_n 3, 1) := by decide +kernel
theorem dX5_after_5 : decode cX5_after 5 = .ok (.aload_n 0, 1) := by decide +kernel
theorem dX5_after_6 : decode cX5_after 6 = .ok (.getfield 7, 3) := by decide +kernel
theorem dX5_after_9 : decode cX5_after 9 = .ok (.if_icmp .ge 41, 3) := by decide +kernel
theorem dX5_after_12 : decode cX5_after 12 = .ok (.iload_n 2, 1) := by decide +kernel
theorem dX5_after_13 : decode cX5_after 13 = .ok (.aload_n 0, 1) := by decide +kernel
theorem dX5_after_14 : decode cX5_after 14 = .ok (.getfield 13, 3) := by decide +kernel
theorem dX5_after_17 : decode cX5_after 17 = .ok (.iload_n 3, 1) := by decide +kernel
theorem dX5_after_18 : decode cX5_after 18 = .ok (.iaload, 1) := by decide +kernel
theorem dX5_after_19 : decode cX5_after 19 = .ok (.ifCond .lt 22, 3) := by decide +kernel
theorem dX5_after_22 : decode cX5_after 22 = .ok (.aload_n 0, 1) := by decide +kernel
theorem dX5_after_23 : decode cX5_after 23 = .ok (.getfield 13, 3) := by decide +kernel
theorem dX5_after_26 : decode cX5_after 26 = .ok (.iload_n 3, 1) := by decide +kernel
theorem dX5_after_27 : decode cX5_after 27 = .ok (.iaload, 1) := by decide +kernel
theorem dX5_after_28 : decode cX5_after 28 = .ok (.iload_n 1, 1) := by decide +kernel
theorem dX5_after_29 : decode cX5_after 29 = .ok (.iconst (-1), 1) := by decide +kernel
theorem dX5_after_30 : decode cX5_after 30 = .ok (.ixor, 1) := by decide +kernel
theorem dX5_after_31 : decode cX5_after 31 = .ok (.iand, 1) := by decide +kernel
theorem dX5_after_32 : decode cX5_after 32 = .ok (.ifCond .ne 9, 3) := by decide +kernel
theorem dX5_after_35 : decode cX5_after 35 = .ok (.iconst 1, 1) := by decide +kernel
theorem dX5_after_36 : decode cX5_after 36 = .ok (.iload_n 3, 1) := by decide +kernel
theorem dX5_after_37 : decode cX5_after 37 = .ok (.ishl, 1) := by decide +kernel
theorem dX5_after_38 : decode cX5_after 38 = .ok (.goto 4, 3) := by decide +kernel
theorem dX5_after_41 : decode cX5_after 41 = .ok (.iconst 0, 1) := by decide +kernel
theorem dX5_after_42 : decode cX5_after 42 = .ok (.ior, 1) := by decide +kernel
theorem dX5_after_43 : decode cX5_after 43 = .ok (.istore_n 2, 1) := by decide +kernel
theorem dX5_after_44 : decode cX5_after 44 = .ok (.iinc 3 1, 3) := by decide +kernel
theorem dX5_after_47 : decode cX5_after 47 = .ok (.goto (-43), 3) := by decide +kernel
theorem dX5_after_50 : decode cX5_after 50 = .ok (.iload_n 2, 1) := by decide +kernel
theorem dX5_after_51 : decode cX5_after 51 = .ok (.ireturn, 1) := by decide +kernel
set_option maxRecDepth 20000 in
theorem ggX5_knownOn_X5_after : GoodIn wsX5_knownOn wsX5_after := goodIn_r _ [5, 6, 7, 8, 9, 10, 11, 12, 13, 14, 15, 16, 17] (by decide +kernel) (by decide +kernel)
set_option maxRecDepth 20000 in
theorem gX5_knownOn_X5_after : GoodIn wsX5_knownOn (wsV RX5 77 RX5 yX5_after wsX5_after) := goodIn_app (goodIn_of _ (by decide +kernel)) ggX5_knownOn_X5_after
theorem dX5_knownOn_0 : decode cX5_knownOn 0 = .ok (.iload_n 1, 1) := by decide +kernel
