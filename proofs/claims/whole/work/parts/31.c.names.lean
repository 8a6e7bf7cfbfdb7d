theorem dX3_has_17 : decode cX3_has 17 = .ok (.ireturn, 1) := by decide +kernel
set_option maxRecDepth 20000 in
theorem ggX3_hasAll_X3_all : GoodIn wsX3_hasAll wsX3_all := goodIn_r _ [5, 6, 7, 8, 9, 10, 11] (by decide +kernel) (by decide +kernel)
set_option maxRecDepth 20000 in
theorem gX3_hasAll_X3_all : GoodIn wsX3_hasAll (wsV RX3 28 RX3 yX3_all wsX3_all) := goodIn_app (goodIn_of _ (by decide +kernel)) ggX3_hasAll_X3_all
theorem dX3_hasAll_0 : decode cX3_hasAll 0 = .ok (.iload_n 1, 1) := by decide +kernel
theorem dX3_hasAll_1 : decode cX3_hasAll 1 = .ok (.aload_n 0, 1) := by decide +kernel
theorem dX3_hasAll_2 : decode cX3_hasAll 2 = .ok (.invokevirtual 28, 3) := by decide +kernel
theorem dX3_hasAll_5 : decode cX3_hasAll 5 = .ok (.iconst (-1), 1) := by decide +kernel
theorem dX3_hasAll_6 : decode cX3_hasAll 6 = .ok (.ixor, 1) := by decide +kernel
theorem dX3_hasAll_7 : decode cX3_hasAll 7 = .ok (.iand, 1) := by decide +kernel
theorem dX3_hasAll_8 : decode cX3_hasAll 8 = .ok (.ifCond .ne 7, 3) := by decide +kernel
theorem dX3_hasAll_11 : decode cX3_hasAll 11 = .ok (.iconst 1, 1) := by decide +kernel
theorem dX3_hasAll_12 : decode cX3_hasAll 12 = .ok (.goto 4, 3) := by decide +kernel
theorem dX3_hasAll_15 : decode cX3_hasAll 15 = .ok (.iconst 0, 1) := by decide +kernel
theorem dX3_hasAll_16 : decode cX3_hasAll 16 = .ok (.ireturn, 1) := by decide +kernel
theorem dX3_isBare_0 : decode cX3_isBare 0 = .ok (.aload_n 0, 1) := by decide +kernel
theorem dX3_isBare_1 : decode cX3_isBare 1 = .ok (.getfield 18, 3) := by decide +kernel
theorem dX3_isBare_4 : decode cX3_isBare 4 = .ok (.iload_n 1, 1) := by decide +kernel
theorem dX3_isBare_5 : decode cX3_isBare 5 = .ok (.ishr, 1) := by decide +kernel
theorem dX3_isBare_6 : decode cX3_isBare 6 = .ok (.iconst 1, 1) := by decide +kernel
theorem dX3_isBare_7 : decode cX3_isBare 7 = .ok (.iand, 1) := by decide +kernel
theorem dX3_isBare_8 : decode cX3_isBare 8 = .ok (.ifCond .ne 7, 3) := by decide +kernel
theorem dX3_isBare_11 : decode cX3_isBare 11 = .ok (.iconst 1, 1) := by decide +kernel
theorem dX3_isBare_12 : decode cX3_isBare 12 = .ok (.goto 4, 3) := by decide +kernel
theorem dX3_isBare_15 : decode cX3_isBare 15 = .ok (.iconst 0, 1) := by decide +kernel
theorem dX3_isBare_16 : decode cX3_isBare 16 = .ok (.ireturn, 1) := by decide +kernel
theorem dX3_makeBare_0 : decode cX3_makeBare 0 = .ok (.aload_n 0, 1) := by decide +kernel
theorem dX3_makeBare_1 : decode cX3_makeBare 1 = .ok (.getfield 25, 3) := by decide +kernel
theorem dX3_makeBare_4 : decode cX3_makeBare 4 = .ok (.iload_n 1, 1) := by decide +kernel
theorem dX3_makeBare_5 : decode cX3_makeBare 5 = .ok (.iconst 0, 1) := by decide +kernel
theorem dX3_makeBare_6 : decode cX3_makeBare 6 = .ok (.iastore, 1) := by decide +kernel
theorem dX3_makeBare_7 : decode cX3_makeBare 7 = .ok (.aload_n 0, 1) := by decide +kernel
theorem dX3_makeBare_8 : decode cX3_makeBare 8 = .ok (.dup, 1) := by decide +kernel
theorem dX3_makeBare_9 : decode cX3_makeBare 9 = .ok (.getfield 18, 3) := by decide +kernel
theorem dX3_makeBare_12 : decode cX3_makeBare 12 = .ok (.iconst 1, 1) := by decide +kernel
theorem dX3_makeBare_13 : decode cX3_makeBare 13 = .ok (.iload_n 1, 1) := by decide +kernel
theorem dX3_makeBare_14 : decode cX3_makeBare 14 = .ok (.ishl, 1) := by decide +kernel
theorem dX3_makeBare_15 : decode cX3_makeBare 15 = .ok (.iconst (-1), 1) := by decide +kernel
theorem dX3_makeBare_16 : decode cX3_makeBare 16 = .ok (.ixor, 1) := by decide +kernel
theorem dX3_makeBare_17 : decode cX3_makeBare 17 = .ok (.iand, 1) := by decide +kernel
theorem dX3_makeBare_18 : decode cX3_makeBare 18 = .ok (.putfield 18, 3) := by decide +kernel
theorem dX3_makeBare_21 : decode cX3_makeBare 21 = .ok (.return_, 1) := by decide +kernel
theorem dX3_setDefinition_0 : decode cX3_setDefinition 0 = .ok (.aload_n 0, 1) := by decide +kernel
theorem dX3_setDefinition_1 : decode cX3_setDefinition 1 = .ok (.getfield 25, 3) := by decide +kernel
theorem dX3_setDefinition_4 : decode cX3_setDefinition 4 = .ok (.iload_n 1, 1) := by decide +kernel
theorem dX3_setDefinition_5 : decode cX3_setDefinition 5 = .ok (.iload_n 2, 1) := by decide +kernel
theorem dX3_setDefinition_6 : decode cX3_setDefinition 6 = .ok (.iastore, 1) := by decide +kernel
theorem dX3_setDefinition_7 : decode cX3_setDefinition 7 = .ok (.aload_n 0, 1) := by decide +kernel
theorem dX3_setDefinition_8 : decode cX3_setDefinition 8 = .ok (.dup, 1) := by decide +kernel
theorem dX3_setDefinition_9 : decode cX3_setDefinition 9 = .ok (.getfield 18, 3) := by decide +kernel
theorem dX3_setDefinition_12 : decode cX3_setDefinition 12 = .ok (.iconst 1, 1) := by decide +kernel
theorem dX3_setDefinition_13 : decode cX3_setDefinition 13 = .ok (.iload_n 1, 1) := by decide +kernel
theorem dX3_setDefinition_14 : decode cX3_setDefinition 14 = .ok (.ishl, 1) := by decide +kernel
theorem dX3_setDefinition_15 : decode cX3_setDefinition 15 = .ok (.ior, 1) := by decide +kernel
theorem dX3_setDefinition_16 : decode cX3_setDefinition 16 = .ok (.putfield 18, 3) := by decide +kernel
theorem dX3_setDefinition_19 : decode cX3_setDefinition 19 = .ok (.return_, 1) := by decide +kernel
set_option maxRecDepth 20000 in
theorem ggX3_resize_X3_all : GoodIn wsX3_resize wsX3_all := goodIn_r _ [9, 1, 15, 16, 17, 18, 19] (by decide +kernel) (by decide +kernel)
set_option maxRecDepth 20000 in
theorem gX3_resize_X3_all : GoodIn wsX3_resize (wsV RX3 28 RX3 yX3_all wsX3_all) := goodIn_app (goodIn_of _ (by decide +kernel)) ggX3_resize_X3_all
set_option maxRecDepth 20000 in
theorem ggX3_resize_X3_makeBare : GoodIn wsX3_resize wsX3_makeBare := goodIn_r _ [13, 3, 14, 15, 16, 17, 18, 19] (by decide +kernel) (by decide +kernel)
set_option maxRecDepth 20000 in
theorem gX3_resize_X3_makeBare : GoodIn wsX3_resize (wsV RX3 32 RX3 yX3_makeBare wsX3_makeBare) := goodIn_app (goodIn_of _ (by decide +kernel)) ggX3_resize_X3_makeBare
theorem dX3_resize_0 : decode cX3_resize 0 = .ok (.aload_n 0, 1) := by decide +kernel
theorem dX3_resize_1 : decode cX3_resize 1 = .ok (.iload_n 1, 1) := by decide +kernel
theorem dX3_resize_2 : decode cX3_resize 2 = .ok (.putfield 9, 3) := by decide +kernel
theorem dX3_resize_5 : decode cX3_resize 5 = .ok (.aload_n 0, 1) := by decide +kernel
theorem dX3_resize_6 : decode cX3_resize 6 = .ok (.dup, 1) := by decide +kernel
theorem dX3_resize_7 : decode cX3_resize 7 = .ok (.getfield 15, 3) := by decide +kernel
theorem dX3_resize_10 : decode cX3_resize 10 = .ok (.aload_n 0, 1) := by decide +kernel
theorem dX3_resize_11 : decode cX3_resize 11 = .ok (.invokevirtual 28, 3) := by decide +kernel
theorem dX3_resize_14 : decode cX3_resize 14 = .ok (.iand, 1) := by decide +kernel
theorem dX3_resize_15 : decode cX3_resize 15 = .ok (.putfield 15, 3) := by decide +kernel
theorem dX3_resize_18 : decode cX3_resize 18 = .ok (.iconst 0, 1) := by decide +kernel
theorem dX3_resize_19 : decode cX3_resize 19 = .ok (.istore_n 2, 1) := by decide +kernel
theorem dX3_resize_20 : decode cX3_resize 20 = .ok (.iload_n 2, 1) := by decide +kernel
theorem dX3_resize_21 : decode cX3_resize 21 = .ok (.iload_n 1, 1) := by decide +kernel
theorem dX3_resize_22 : decode cX3_resize 22 = .ok (.if_icmp .ge 22, 3) := by decide +kernel
theorem dX3_resize_25 : decode cX3_resize 25 = .ok (.aload_n 0, 1) := by decide +kernel
theorem dX3_resize_26 : decode cX3_resize 26 = .ok (.getfield 25, 3) := by decide +kernel
theorem dX3_resize_29 : decode cX3_resize 29 = .ok (.iload_n 2, 1) := by decide +kernel
theorem dX3_resize_30 : decode cX3_resize 30 = .ok (.dup2, 1) := by decide +kernel
theorem dX3_resize_31 : decode cX3_resize 31 = .ok (.iaload, 1) := by decide +kernel
theorem dX3_resize_32 : decode cX3_resize 32 = .ok (.aload_n 0, 1) := by decide +kernel
theorem dX3_resize_33 : decode cX3_resize 33 = .ok (.invokevirtual 28, 3) := by decide +kernel
theorem dX3_resize_36 : decode cX3_resize 36 = .ok (.iand, 1) := by decide +kernel
theorem dX3_resize_37 : decode cX3_resize 37 = .ok (.iastore, 1) := by decide +kernel
theorem dX3_resize_38 : decode cX3_resize 38 = .ok (.iinc 2 1, 3) := by decide +kernel
theorem dX3_resize_41 : decode cX3_resize 41 = .ok (.goto (-21), 3) := by decide +kernel
theorem dX3_resize_44 : decode cX3_resize 44 = .ok (.iload_n 1, 1) := by decide +kernel
theorem dX3_resize_45 : decode cX3_resize 45 = .ok (.istore_n 2, 1) := by decide +kernel
theorem dX3_resize_46 : decode cX3_resize 46 = .ok (.iload_n 2, 1) := by decide +kernel
theorem dX3_resize_47 : decode cX3_resize 47 = .ok (.bipush 14, 2) := by decide +kernel
theorem dX3_resize_49 : decode cX3_resize 49 = .ok (.if_icmp .ge 21, 3) := by decide +kernel
theorem dX3_resize_52 : decode cX3_resize 52 = .ok (.aload_n 0, 1) := by decide +kernel
theorem dX3_resize_53 : decode cX3_resize 53 = .ok (.iload_n 2, 1) := by decide +kernel
theorem dX3_resize_54 : decode cX3_resize 54 = .ok (.invokevirtual 32, 3) := by decide +kernel
theorem dX3_resize_57 : decode cX3_resize 57 = .ok (.aload_n 0, 1) := by decide +kernel
theorem dX3_resize_58 : decode cX3_resize 58 = .ok (.getfield 21, 3) := by decide +kernel
theorem dX3_resize_61 : decode cX3_resize 61 = .ok (.iload_n 2, 1) := by decide +kernel
theorem dX3_resize_62 : decode cX3_resize 62 = .ok (.iconst 1, 1) := by decide +kernel
theorem dX3_resize_63 : decode cX3_resize 63 = .ok (.iastore, 1) := by decide +kernel
theorem dX3_resize_64 : decode cX3_resize 64 = .ok (.iinc 2 1, 3) := by decide +kernel
theorem dX3_resize_67 : decode cX3_resize 67 = .ok (.goto (-21), 3) := by decide +kernel
theorem dX3_resize_70 : decode cX3_resize 70 = .ok (.return_, 1) := by decide +kernel
theorem dX3_copyFrom_0 : decode cX3_copyFrom 0 = .ok (.aload_n 0, 1) := by decide +kernel
theorem dX3_copyFrom_1 : decode cX3_copyFrom 1 = .ok (.aload_n 1, 1) := by decide +kernel
theorem dX3_copyFrom_2 : decode cX3_copyFrom 2 = .ok (.getfield 9, 3) := by decide +kernel
theorem dX3_copyFrom_5 : decode cX3_copyFrom 5 = .ok (.putfield 9, 3) := by decide +kernel
theorem dX3_copyFrom_8 : decode cX3_copyFrom 8 = .ok (.aload_n 0, 1) := by decide +kernel
theorem dX3_copyFrom_9 : decode cX3_copyFrom 9 = .ok (.aload_n 1, 1) := by decide +kernel
theorem dX3_copyFrom_10 : decode cX3_copyFrom 10 = .ok (.getfield 15, 3) := by decide +kernel
theorem dX3_copyFrom_13 : decode cX3_copyFrom 13 = .ok (.putfield 15, 3) := by decide +kernel
theorem dX3_copyFrom_16 : decode cX3_copyFrom 16 = .ok (.aload_n 0, 1) := by decide +kernel
theorem dX3_copyFrom_17 : decode cX3_copyFrom 17 = .ok (.aload_n 1, 1) := by decide +kernel
theorem dX3_copyFrom_18 : decode cX3_copyFrom 18 = .ok (.getfield 18, 3) := by decide +kernel
theorem dX3_copyFrom_21 : decode cX3_copyFrom 21 = .ok (.putfield 18, 3) := by decide +kernel
theorem dX3_copyFrom_24 : decode cX3_copyFrom 24 = .ok (.iconst 0, 1) := by decide +kernel
theorem dX3_copyFrom_25 : decode cX3_copyFrom 25 = .ok (.istore_n 2, 1) := by decide +kernel
theorem dX3_copyFrom_26 : decode cX3_copyFrom 26 = .ok (.iload_n 2, 1) := by decide +kernel
theorem dX3_copyFrom_27 : decode cX3_copyFrom 27 = .ok (.bipush 14, 2) := by decide +kernel
theorem dX3_copyFrom_29 : decode cX3_copyFrom 29 = .ok (.if_icmp .ge 33, 3) := by decide +kernel
theorem dX3_copyFrom_32 : decode cX3_copyFrom 32 = .ok (.aload_n 0, 1) := by decide +kernel
theorem dX3_copyFrom_33 : decode cX3_copyFrom 33 = .ok (.getfield 21, 3) := by decide +kernel
theorem dX3_copyFrom_36 : decode cX3_copyFrom 36 = .ok (.iload_n 2, 1) := by decide +kernel
theorem dX3_copyFrom_37 : decode cX3_copyFrom 37 = .ok (.aload_n 1, 1) := by decide +kernel
theorem dX3_copyFrom_38 : decode cX3_copyFrom 38 = .ok (.getfield 21, 3) := by decide +kernel
theorem dX3_copyFrom_41 : decode cX3_copyFrom 41 = .ok (.iload_n 2, 1) := by decide +kernel
theorem dX3_copyFrom_42 : decode cX3_copyFrom 42 = .ok (.iaload, 1) := by decide +kernel
theorem dX3_copyFrom_43 : decode cX3_copyFrom 43 = .ok (.iastore, 1) := by decide +kernel
theorem dX3_copyFrom_44 : decode cX3_copyFrom 44 = .ok (.aload_n 0, 1) := by decide +kernel
theorem dX3_copyFrom_45 : decode cX3_copyFrom 45 = .ok (.getfield 25, 3) := by decide +kernel
theorem dX3_copyFrom_48 : decode cX3_copyFrom 48 = .ok (.iload_n 2, 1) := by decide +kernel
theorem dX3_copyFrom_49 : decode cX3_copyFrom 49 = .ok (.aload_n 1, 1) := by decide +kernel
theorem dX3_copyFrom_50 : decode cX3_copyFrom 50 = .ok (.getfield 25, 3) := by decide +kernel
theorem dX3_copyFrom_53 : decode cX3_copyFrom 53 = .ok (.iload_n 2, 1) := by decide +kernel
theorem dX3_copyFrom_54 : decode cX3_copyFrom 54 = .ok (.iaload, 1) := by decide +kernel
theorem dX3_copyFrom_55 : decode cX3_copyFrom 55 = .ok (.iastore, 1) := by decide +kernel
theorem dX3_copyFrom_56 : decode cX3_copyFrom 56 = .ok (.iinc 2 1, 3) := by decide +kernel
theorem dX3_copyFrom_59 : decode cX3_copyFrom 59 = .ok (.goto (-33), 3) := by decide +kernel
theorem dX3_copyFrom_62 : decode cX3_copyFrom 62 = .ok (.return_, 1) := by decide +kernel
theorem dX3_usersOf_0 : decode cX3_usersOf 0 = .ok (.iconst 0, 1) := by decide +kernel
theorem dX3_usersOf_1 : decode cX3_usersOf 1 = .ok (.istore_n 2, 1) := by decide +kernel
theorem dX3_usersOf_2 : decode cX3_usersOf 2 = .ok (.iconst 0, 1) := by decide +kernel
theorem dX3_usersOf_3 : decode cX3_usersOf 3 = .ok (.istore_n 3, 1) := by decide +kernel
theorem dX3_usersOf_4 : decode cX3_usersOf 4 = .ok (.iload_n 3, 1) := by decide +kernel
theorem dX3_usersOf_5 : decode cX3_usersOf 5 = .ok (.aload_n 0, 1) := by decide +kernel
theorem dX3_usersOf_6 : decode cX3_usersOf 6 = .ok (.getfield 9, 3) := by decide +kernel
theorem dX3_usersOf_9 : decode cX3_usersOf 9 = .ok (.if_icmp .ge 24, 3) := by decide +kernel
theorem dX3_usersOf_12 : decode cX3_usersOf 12 = .ok (.iload_n 2, 1) := by decide +kernel
theorem dX3_usersOf_13 : decode cX3_usersOf 13 = .ok (.aload_n 0, 1) := by decide +kernel
theorem dX3_usersOf_14 : decode cX3_usersOf 14 = .ok (.getfield 25, 3) := by decide +kernel
theorem dX3_usersOf_17 : decode cX3_usersOf 17 = .ok (.iload_n 3, 1) := by decide +kernel
theorem dX3_usersOf_18 : decode cX3_usersOf 18 = .ok (.iaload, 1) := by decide +kernel
theorem dX3_usersOf_19 : decode cX3_usersOf 19 = .ok (.iload_n 1, 1) := by decide +kernel
theorem dX3_usersOf_20 : decode cX3_usersOf 20 = .ok (.ishr, 1) := by decide +kernel
theorem dX3_usersOf_21 : decode cX3_usersOf 21 = .ok (.iconst 1, 1) := by decide +kernel
theorem dX3_usersOf_22 : decode cX3_usersOf 22 = .ok (.iand, 1) := by decide +kernel
theorem dX3_usersOf_23 : decode cX3_usersOf 23 = .ok (.iload_n 3, 1) := by decide +kernel
theorem dX3_usersOf_24 : decode cX3_usersOf 24 = .ok (.ishl, 1) := by decide +kernel
theorem dX3_usersOf_25 : decode cX3_usersOf 25 = .ok (.ior, 1) := by decide +kernel
theorem dX3_usersOf_26 : decode cX3_usersOf 26 = .ok (.istore_n 2, 1) := by decide +kernel
theorem dX3_usersOf_27 : decode cX3_usersOf 27 = .ok (.iinc 3 1, 3) := by decide +kernel
theorem dX3_usersOf_30 : decode cX3_usersOf 30 = .ok (.goto (-26), 3) := by decide +kernel
theorem dX3_usersOf_33 : decode cX3_usersOf 33 = .ok (.iload_n 2, 1) := by decide +kernel
theorem dX3_usersOf_34 : decode cX3_usersOf 34 = .ok (.ireturn, 1) := by decide +kernel
theorem dX3_used_0 : decode cX3_used 0 = .ok (.iconst 0, 1) := by decide +kernel
theorem dX3_used_1 : decode cX3_used 1 = .ok (.istore_n 1, 1) := by decide +kernel
theorem dX3_used_2 : decode cX3_used 2 = .ok (.iconst 0, 1) := by decide +kernel
theorem dX3_used_3 : decode cX3_used 3 = .ok (.istore_n 2, 1) := by decide +kernel
theorem dX3_used_4 : decode cX3_used 4 = .ok (.iload_n 2, 1) := by decide +kernel
theorem dX3_used_5 : decode cX3_used 5 = .ok (.aload_n 0, 1) := by decide +kernel
theorem dX3_used_6 : decode cX3_used 6 = .ok (.getfield 9, 3) := by decide +kernel
theorem dX3_used_9 : decode cX3_used 9 = .ok (.if_icmp .ge 18, 3) := by decide +kernel
theorem dX3_used_12 : decode cX3_used 12 = .ok (.iload_n 1, 1) := by decide +kernel
theorem dX3_used_13 : decode cX3_used 13 = .ok (.aload_n 0, 1) := by decide +kernel
theorem dX3_used_14 : decode cX3_used 14 = .ok (.getfield 25, 3) := by decide +kernel
theorem dX3_used_17 : decode cX3_used 17 = .ok (.iload_n 2, 1) := by decide +kernel
theorem dX3_used_18 : decode cX3_used 18 = .ok (.iaload, 1) := by decide +kernel
theorem dX3_used_19 : decode cX3_used 19 = .ok (.ior, 1) := by decide +kernel
theorem dX3_used_20 : decode cX3_used 20 = .ok (.istore_n 1, 1) := by decide +kernel
theorem dX3_used_21 : decode cX3_used 21 = .ok (.iinc 2 1, 3) := by decide +kernel
theorem dX3_used_24 : decode cX3_used 24 = .ok (.goto (-20), 3) := by decide +kernel
theorem dX3_used_27 : decode cX3_used 27 = .ok (.iload_n 1, 1) := by decide +kernel
theorem dX3_used_28 : decode cX3_used 28 = .ok (.ireturn, 1) := by decide +kernel
set_option maxRecDepth 20000 in
theorem ggX3_howOftenUsed_J6_bitCount_0f7a4 : GoodIn wsX3_howOftenUsed wsJ6_bitCount_0f7a4 := goodIn_r _ [6, 7, 8, 9] (by decide +kernel) (by decide +kernel)
set_option maxRecDepth 20000 in
theorem gX3_howOftenUsed_J6_bitCount_0f7a4 : GoodIn wsX3_howOftenUsed (va_wsS RX3 36 yJ6_bitCount_0f7a4 wsJ6_bitCount_0f7a4) := goodIn_app (goodIn_of _ (by decide +kernel)) ggX3_howOftenUsed_J6_bitCount_0f7a4
theorem dX3_howOftenUsed_0 : decode cX3_howOftenUsed 0 = .ok (.iconst 0, 1) := by decide +kernel
theorem dX3_howOftenUsed_1 : decode cX3_howOftenUsed 1 = .ok (.istore_n 1, 1) := by decide +kernel
theorem dX3_howOftenUsed_2 : decode cX3_howOftenUsed 2 = .ok (.iconst 0, 1) := by decide +kernel
theorem dX3_howOftenUsed_3 : decode cX3_howOftenUsed 3 = .ok (.istore_n 2, 1) := by decide +kernel
theorem dX3_howOftenUsed_4 : decode cX3_howOftenUsed 4 = .ok (.iload_n 2, 1) := by decide +kernel
theorem dX3_howOftenUsed_5 : decode cX3_howOftenUsed 5 = .ok (.aload_n 0, 1) := by decide +kernel
theorem dX3_howOftenUsed_6 : decode cX3_howOftenUsed 6 = .ok (.getfield 9, 3) := by decide +kernel
theorem dX3_howOftenUsed_9 : decode cX3_howOftenUsed 9 = .ok (.if_icmp .ge 21, 3) := by decide +kernel
theorem dX3_howOftenUsed_12 : decode cX3_howOftenUsed 12 = .ok (.iload_n 1, 1) := by decide +kernel
theorem dX3_howOftenUsed_13 : decode cX3_howOftenUsed 13 = .ok (.aload_n 0, 1) := by decide +kernel
theorem dX3_howOftenUsed_14 : decode cX3_howOftenUsed 14 = .ok (.getfield 25, 3) := by decide +kernel
theorem dX3_howOftenUsed_17 : decode cX3_howOftenUsed 17 = .ok (.iload_n 2, 1) := by decide +kernel
theorem dX3_howOftenUsed_18 : decode cX3_howOftenUsed 18 = .ok (.iaload, 1) := by decide +kernel
theorem dX3_howOftenUsed_19 : decode cX3_howOftenUsed 19 = .ok (.invokestatic 36, 3) := by decide +kernel
theorem dX3_howOftenUsed_22 : decode cX3_howOftenUsed 22 = .ok (.iadd, 1) := by decide +kernel
theorem dX3_howOftenUsed_23 : decode cX3_howOftenUsed 23 = .ok (.istore_n 1, 1) := by decide +kernel
theorem dX3_howOftenUsed_24 : decode cX3_howOftenUsed 24 = .ok (.iinc 2 1, 3) := by decide +kernel
theorem dX3_howOftenUsed_27 : decode cX3_howOftenUsed 27 = .ok (.goto (-23), 3) := by decide +kernel
theorem dX3_howOftenUsed_30 : decode cX3_howOftenUsed 30 = .ok (.iload_n 1, 1) := by decide +kernel
theorem dX3_howOftenUsed_31 : decode cX3_howOftenUsed 31 = .ok (.ireturn, 1) := by decide +kernel
theorem dX3_costOf_0 : decode cX3_costOf 0 = .ok (.iconst 0, 1) := by decide +kernel
theorem dX3_costOf_1 : decode cX3_costOf 1 = .ok (.istore_n 2, 1) := by decide +kernel
theorem dX3_costOf_2 : decode cX3_costOf 2 = .ok (.iconst 0, 1) := by decide +kernel
theorem dX3_costOf_3 : decode cX3_costOf 3 = .ok (.istore_n 3, 1) := by decide +kernel
theorem dX3_costOf_4 : decode cX3_costOf 4 = .ok (.iload_n 3, 1) := by decide +kernel
theorem dX3_costOf_5 : decode cX3_costOf 5 = .ok (.aload_n 0, 1) := by decide +kernel
theorem dX3_costOf_6 : decode cX3_costOf 6 = .ok (.getfield 9, 3) := by decide +kernel
theorem dX3_costOf_9 : decode cX3_costOf 9 = .ok (.if_icmp .ge 26, 3) := by decide +kernel
theorem dX3_costOf_12 : decode cX3_costOf 12 = .ok (.iload_n 1, 1) := by decide +kernel
theorem dX3_costOf_13 : decode cX3_costOf 13 = .ok (.iload_n 3, 1) := by decide +kernel
theorem dX3_costOf_14 : decode cX3_costOf 14 = .ok (.ishr, 1) := by decide +kernel
theorem dX3_costOf_15 : decode cX3_costOf 15 = .ok (.iconst 1, 1) := by decide +kernel
theorem dX3_costOf_16 : decode cX3_costOf 16 = .ok (.iand, 1) := by decide +kernel
theorem dX3_costOf_17 : decode cX3_costOf 17 = .ok (.ifCond .eq 12, 3) := by decide +kernel
theorem dX3_costOf_20 : decode cX3_costOf 20 = .ok (.iload_n 2, 1) := by decide +kernel
theorem dX3_costOf_21 : decode cX3_costOf 21 = .ok (.aload_n 0, 1) := by decide +kernel
theorem dX3_costOf_22 : decode cX3_costOf 22 = .ok (.getfield 21, 3) := by decide +kernel
theorem dX3_costOf_25 : decode cX3_costOf 25 = .ok (.iload_n 3, 1) := by decide +kernel
theorem dX3_costOf_26 : decode cX3_costOf 26 = .ok (.iaload, 1) := by decide +kernel
theorem dX3_costOf_27 : decode cX3_costOf 27 = .ok (.iadd, 1) := by decide +kernel
theorem dX3_costOf_28 : decode cX3_costOf 28 = .ok (.istore_n 2, 1) := by decide +kernel
theorem dX3_costOf_29 : decode cX3_costOf 29 = .ok (.iinc 3 1, 3) := by decide +kernel
theorem dX3_costOf_32 : decode cX3_costOf 32 = .ok (.goto (-28), 3) := by decide +kernel
theorem dX3_costOf_35 : decode cX3_costOf 35 = .ok (.iload_n 2, 1) := by decide +kernel
theorem dX3_costOf_36 : decode cX3_costOf 36 = .ok (.ireturn, 1) := by decide +kernel
set_option maxRecDepth 20000 in
theorem ggX3_nextDay_X3_isBare : GoodIn wsX3_nextDay wsX3_isBare := goodIn_r _ [7, 8, 9, 10, 11, 12, 13] (by decide +kernel) (by decide +kernel)
set_option maxRecDepth 20000 in
theorem gX3_nextDay_X3_isBare : GoodIn wsX3_nextDay (wsV RX3 42 RX3 yX3_isBare wsX3_isBare) := goodIn_app (goodIn_of _ (by decide +kernel)) ggX3_nextDay_X3_isBare
theorem dX3_nextDay_0 : decode cX3_nextDay 0 = .ok (.iload_n 1, 1) := by decide +kernel
theorem dX3_nextDay_1 : decode cX3_nextDay 1 = .ok (.istore_n 2, 1) := by decide +kernel
theorem dX3_nextDay_2 : decode cX3_nextDay 2 = .ok (.iconst 0, 1) := by decide +kernel
theorem dX3_nextDay_3 : decode cX3_nextDay 3 = .ok (.istore_n 3, 1) := by decide +kernel
theorem dX3_nextDay_4 : decode cX3_nextDay 4 = .ok (.iload_n 3, 1) := by decide +kernel
theorem dX3_nextDay_5 : decode cX3_nextDay 5 = .ok (.aload_n 0, 1) := by decide +kernel
theorem dX3_nextDay_6 : decode cX3_nextDay 6 = .ok (.getfield 9, 3) := by decide +kernel
theorem dX3_nextDay_9 : decode cX3_nextDay 9 = .ok (.if_icmp .ge 36, 3) := by decide +kernel
theorem dX3_nextDay_12 : decode cX3_nextDay 12 = .ok (.aload_n 0, 1) := by decide +kernel
theorem dX3_nextDay_13 : decode cX3_nextDay 13 = .ok (.iload_n 3, 1) := by decide +kernel
theorem dX3_nextDay_14 : decode cX3_nextDay 14 = .ok (.invokevirtual 42, 3) := by decide +kernel
theorem dX3_nextDay_17 : decode cX3_nextDay 17 = .ok (.ifCond .ne 22, 3) := by decide +kernel
theorem dX3_nextDay_20 : decode cX3_nextDay 20 = .ok (.aload_n 0, 1) := by decide +kernel
theorem dX3_nextDay_21 : decode cX3_nextDay 21 = .ok (.getfield 25, 3) := by decide +kernel
theorem dX3_nextDay_24 : decode cX3_nextDay 24 = .ok (.iload_n 3, 1) := by decide +kernel
theorem dX3_nextDay_25 : decode cX3_nextDay 25 = .ok (.iaload, 1) := by decide +kernel
theorem dX3_nextDay_26 : decode cX3_nextDay 26 = .ok (.iload_n 1, 1) := by decide +kernel
theorem dX3_nextDay_27 : decode cX3_nextDay 27 = .ok (.iconst (-1), 1) := by decide +kernel
theorem dX3_nextDay_28 : decode cX3_nextDay 28 = .ok (.ixor, 1) := by decide +kernel
theorem dX3_nextDay_29 : decode cX3_nextDay 29 = .ok (.iand, 1) := by decide +kernel
theorem dX3_nextDay_30 : decode cX3_nextDay 30 = .ok (.ifCond .ne 9, 3) := by decide +kernel
theorem dX3_nextDay_33 : decode cX3_nextDay 33 = .ok (.iload_n 2, 1) := by decide +kernel
theorem dX3_nextDay_34 : decode cX3_nextDay 34 = .ok (.iconst 1, 1) := by decide +kernel
theorem dX3_nextDay_35 : decode cX3_nextDay 35 = .ok (.iload_n 3, 1) := by decide +kernel
theorem dX3_nextDay_36 : decode cX3_nextDay 36 = .ok (.ishl, 1) := by decide +kernel
theorem dX3_nextDay_37 : decode cX3_nextDay 37 = .ok (.ior, 1) := by decide +kernel
theorem dX3_nextDay_38 : decode cX3_nextDay 38 = .ok (.istore_n 2, 1) := by decide +kernel
theorem dX3_nextDay_39 : decode cX3_nextDay 39 = .ok (.iinc 3 1, 3) := by decide +kernel
theorem dX3_nextDay_42 : decode cX3_nextDay 42 = .ok (.goto (-38), 3) := by decide +kernel
theorem dX3_nextDay_45 : decode cX3_nextDay 45 = .ok (.iload_n 2, 1) := by decide +kernel
theorem dX3_nextDay_46 : decode cX3_nextDay 46 = .ok (.ireturn, 1) := by decide +kernel
set_option maxRecDepth 20000 in
theorem ggX3_groundedBy_X3_nextDay : GoodIn wsX3_groundedBy wsX3_nextDay := goodIn_r _ [6, 1, 7, 8, 9, 10, 5, 11, 12, 13, 14, 15, 16, 17] (by decide +kernel) (by decide +kernel)
set_option maxRecDepth 20000 in
theorem gX3_groundedBy_X3_nextDay : GoodIn wsX3_groundedBy (wsV RX3 46 RX3 yX3_nextDay wsX3_nextDay) := goodIn_app (goodIn_of _ (by decide +kernel)) ggX3_groundedBy_X3_nextDay
theorem dX3_groundedBy_0 : decode cX3_groundedBy 0 = .ok (.iload_n 1, 1) := by decide +kernel
theorem dX3_groundedBy_1 : decode cX3_groundedBy 1 = .ok (.istore_n 2, 1) := by decide +kernel
theorem dX3_groundedBy_2 : decode cX3_groundedBy 2 = .ok (.iconst 0, 1) := by decide +kernel
theorem dX3_groundedBy_3 : decode cX3_groundedBy 3 = .ok (.istore_n 3, 1) := by decide +kernel
theorem dX3_groundedBy_4 : decode cX3_groundedBy 4 = .ok (.iload_n 3, 1) := by decide +kernel
theorem dX3_groundedBy_5 : decode cX3_groundedBy 5 = .ok (.aload_n 0, 1) := by decide +kernel
theorem dX3_groundedBy_6 : decode cX3_groundedBy 6 = .ok (.getfield 9, 3) := by decide +kernel
theorem dX3_groundedBy_9 : decode cX3_groundedBy 9 = .ok (.if_icmp .ge 15, 3) := by decide +kernel
theorem dX3_groundedBy_12 : decode cX3_groundedBy 12 = .ok (.aload_n 0, 1) := by decide +kernel
theorem dX3_groundedBy_13 : decode cX3_groundedBy 13 = .ok (.iload_n 2, 1) := by decide +kernel
theorem dX3_groundedBy_14 : decode cX3_groundedBy 14 = .ok (.invokevirtual 46, 3) := by decide +kernel
theorem dX3_groundedBy_17 : decode cX3_groundedBy 17 = .ok (.istore_n 2, 1) := by decide +kernel
theorem dX3_groundedBy_18 : decode cX3_groundedBy 18 = .ok (.iinc 3 1, 3) := by decide +kernel
theorem dX3_groundedBy_21 : decode cX3_groundedBy 21 = .ok (.goto (-17), 3) := by decide +kernel
theorem dX3_groundedBy_24 : decode cX3_groundedBy 24 = .ok (.iload_n 2, 1) := by decide +kernel
theorem dX3_groundedBy_25 : decode cX3_groundedBy 25 = .ok (.ireturn, 1) := by decide +kernel
set_option maxRecDepth 20000 in
theorem ggX3_daysTill_X3_nextDay : GoodIn wsX3_daysTill wsX3_nextDay := goodIn_r _ [6, 1, 7, 8, 9, 10, 5, 11, 12, 13, 14, 15, 16, 17] (by decide +kernel) (by decide +kernel)
set_option maxRecDepth 20000 in
theorem gX3_daysTill_X3_nextDay : GoodIn wsX3_daysTill (wsV RX3 46 RX3 yX3_nextDay wsX3_nextDay) := goodIn_app (goodIn_of _ (by decide +kernel)) ggX3_daysTill_X3_nextDay
theorem dX3_daysTill_0 : decode cX3_daysTill 0 = .ok (.iload_n 2, 1) := by decide +kernel
theorem dX3_daysTill_1 : decode cX3_daysTill 1 = .ok (.istore_n 3, 1) := by decide +kernel
theorem dX3_daysTill_2 : decode cX3_daysTill 2 = .ok (.iconst 0, 1) := by decide +kernel
theorem dX3_daysTill_3 : decode cX3_daysTill 3 = .ok (.istore 4, 2) := by decide +kernel
theorem dX3_daysTill_5 : decode cX3_daysTill 5 = .ok (.iload 4, 2) := by decide +kernel
theorem dX3_daysTill_7 : decode cX3_daysTill 7 = .ok (.aload_n 0, 1) := by decide +kernel
theorem dX3_daysTill_8 : decode cX3_daysTill 8 = .ok (.getfield 9, 3) := by decide +kernel
theorem dX3_daysTill_11 : decode cX3_daysTill 11 = .ok (.if_icmp .gt 26, 3) := by decide +kernel
theorem dX3_daysTill_14 : decode cX3_daysTill 14 = .ok (.iload_n 1, 1) := by decide +kernel
theorem dX3_daysTill_15 : decode cX3_daysTill 15 = .ok (.iload_n 3, 1) := by decide +kernel
theorem dX3_daysTill_16 : decode cX3_daysTill 16 = .ok (.iconst (-1), 1) := by decide +kernel
theorem dX3_daysTill_17 : decode cX3_daysTill 17 = .ok (.ixor, 1) := by decide +kernel
theorem dX3_daysTill_18 : decode cX3_daysTill 18 = .ok (.iand, 1) := by decide +kernel
theorem dX3_daysTill_19 : decode cX3_daysTill 19 = .ok (.ifCond .ne 6, 3) := by decide +kernel
theorem dX3_daysTill_22 : decode cX3_daysTill 22 = .ok (.iload 4, 2) := by decide +kernel
theorem dX3_daysTill_24 : decode cX3_daysTill 24 = .ok (.ireturn, 1) := by decide +kernel
theorem dX3_daysTill_25 : decode cX3_daysTill 25 = .ok (.aload_n 0, 1) := by decide +kernel
theorem dX3_daysTill_26 : decode cX3_daysTill 26 = .ok (.iload_n 3, 1) := by decide +kernel
theorem dX3_daysTill_27 : decode cX3_daysTill 27 = .ok (.invokevirtual 46, 3) := by decide +kernel
theorem dX3_daysTill_30 : decode cX3_daysTill 30 = .ok (.istore_n 3, 1) := by decide +kernel
theorem dX3_daysTill_31 : decode cX3_daysTill 31 = .ok (.iinc 4 1, 3) := by decide +kernel
theorem dX3_daysTill_34 : decode cX3_daysTill 34 = .ok (.goto (-29), 3) := by decide +kernel
theorem dX3_daysTill_37 : decode cX3_daysTill 37 = .ok (.bipush (-6), 2) := by decide +kernel
theorem dX3_daysTill_39 : decode cX3_daysTill 39 = .ok (.ireturn, 1) := by decide +kernel
set_option maxRecDepth 20000 in
theorem ggX3_stepsBetween_X3_usedByAny : GoodIn wsX3_stepsBetween wsX3_usedByAny := goodIn_r _ [7, 2, 1, 8, 9, 10, 11, 12] (by decide +kernel) (by decide +kernel)
set_option maxRecDepth 20000 in
theorem gX3_stepsBetween_X3_usedByAny : GoodIn wsX3_stepsBetween (wsV RX3 49 RX3 yX3_usedByAny wsX3_usedByAny) := goodIn_app (goodIn_of _ (by decide +kernel)) ggX3_stepsBetween_X3_usedByAny
theorem dX3_stepsBetween_0 : decode cX3_stepsBetween 0 = .ok (.aload_n 0, 1) := by decide +kernel
theorem dX3_stepsBetween_1 : decode cX3_stepsBetween 1 = .ok (.getfield 25, 3) := by decide +kernel
theorem dX3_stepsBetween_4 : decode cX3_stepsBetween 4 = .ok (.iload_n 1, 1) := by decide +kernel
theorem dX3_stepsBetween_5 : decode cX3_stepsBetween 5 = .ok (.iaload, 1) := by decide +kernel
theorem dX3_stepsBetween_6 : decode cX3_stepsBetween 6 = .ok (.istore_n 3, 1) := by decide +kernel
theorem dX3_stepsBetween_7 : decode cX3_stepsBetween 7 = .ok (.iconst 1, 1) := by decide +kernel
theorem dX3_stepsBetween_8 : decode cX3_stepsBetween 8 = .ok (.istore 4, 2) := by decide +kernel
theorem dX3_stepsBetween_10 : decode cX3_stepsBetween 10 = .ok (.iload 4, 2) := by decide +kernel
theorem dX3_stepsBetween_12 : decode cX3_stepsBetween 12 = .ok (.aload_n 0, 1) := by decide +kernel
theorem dX3_stepsBetween_13 : decode cX3_stepsBetween 13 = .ok (.getfield 9, 3) := by decide +kernel
theorem dX3_stepsBetween_16 : decode cX3_stepsBetween 16 = .ok (.if_icmp .gt 28, 3) := by decide +kernel
theorem dX3_stepsBetween_19 : decode cX3_stepsBetween 19 = .ok (.iload_n 3, 1) := by decide +kernel
theorem dX3_stepsBetween_20 : decode cX3_stepsBetween 20 = .ok (.iload_n 2, 1) := by decide +kernel
theorem dX3_stepsBetween_21 : decode cX3_stepsBetween 21 = .ok (.ishr, 1) := by decide +kernel
theorem dX3_stepsBetween_22 : decode cX3_stepsBetween 22 = .ok (.iconst 1, 1) := by decide +kernel
theorem dX3_stepsBetween_23 : decode cX3_stepsBetween 23 = .ok (.iand, 1) := by decide +kernel
theorem dX3_stepsBetween_24 : decode cX3_stepsBetween 24 = .ok (.ifCond .eq 6, 3) := by decide +kernel
theorem dX3_stepsBetween_27 : decode cX3_stepsBetween 27 = .ok (.iload 4, 2) := by decide +kernel
theorem dX3_stepsBetween_29 : decode cX3_stepsBetween 29 = .ok (.ireturn, 1) := by decide +kernel
theorem dX3_stepsBetween_30 : decode cX3_stepsBetween 30 = .ok (.iload_n 3, 1) := by decide +kernel
theorem dX3_stepsBetween_31 : decode cX3_stepsBetween 31 = .ok (.aload_n 0, 1) := by decide +kernel
theorem dX3_stepsBetween_32 : decode cX3_stepsBetween 32 = .ok (.iload_n 3, 1) := by decide +kernel
theorem dX3_stepsBetween_33 : decode cX3_stepsBetween 33 = .ok (.invokevirtual 49, 3) := by decide +kernel
theorem dX3_stepsBetween_36 : decode cX3_stepsBetween 36 = .ok (.ior, 1) := by decide +kernel
theorem dX3_stepsBetween_37 : decode cX3_stepsBetween 37 = .ok (.istore_n 3, 1) := by decide +kernel
theorem dX3_stepsBetween_38 : decode cX3_stepsBetween 38 = .ok (.iinc 4 1, 3) := by decide +kernel
theorem dX3_stepsBetween_41 : decode cX3_stepsBetween 41 = .ok (.goto (-31), 3) := by decide +kernel
theorem dX3_stepsBetween_44 : decode cX3_stepsBetween 44 = .ok (.bipush (-6), 2) := by decide +kernel
theorem dX3_stepsBetween_46 : decode cX3_stepsBetween 46 = .ok (.ireturn, 1) := by decide +kernel
theorem dX3_usedByAny_0 : decode cX3_usedByAny 0 = .ok (.iconst 0, 1) := by decide +kernel
theorem dX3_usedByAny_1 : decode cX3_usedByAny 1 = .ok (.istore_n 2, 1) := by decide +kernel
theorem dX3_usedByAny_2 : decode cX3_usedByAny 2 = .ok (.iconst 0, 1) := by decide +kernel
theorem dX3_usedByAny_3 : decode cX3_usedByAny 3 = .ok (.istore_n 3, 1) := by decide +kernel
theorem dX3_usedByAny_4 : decode cX3_usedByAny 4 = .ok (.iload_n 3, 1) := by decide +kernel
theorem dX3_usedByAny_5 : decode cX3_usedByAny 5 = .ok (.aload_n 0, 1) := by decide +kernel
theorem dX3_usedByAny_6 : decode cX3_usedByAny 6 = .ok (.getfield 9, 3) := by decide +kernel
theorem dX3_usedByAny_9 : decode cX3_usedByAny 9 = .ok (.if_icmp .ge 26, 3) := by decide +kernel
theorem dX3_usedByAny_12 : decode cX3_usedByAny 12 = .ok (.iload_n 1, 1) := by decide +kernel
theorem dX3_usedByAny_13 : decode cX3_usedByAny 13 = .ok (.iload_n 3, 1) := by decide +kernel
theorem dX3_usedByAny_14 : decode cX3_usedByAny 14 = .ok (.ishr, 1) := by decide +kernel
theorem dX3_usedByAny_15 : decode cX3_usedByAny 15 = .ok (.iconst 1, 1) := by decide +kernel
theorem dX3_usedByAny_16 : decode cX3_usedByAny 16 = .ok (.iand, 1) := by decide +kernel
theorem dX3_usedByAny_17 : decode cX3_usedByAny 17 = .ok (.ifCond .eq 12, 3) := by decide +kernel
theorem dX3_usedByAny_20 : decode cX3_usedByAny 20 = .ok (.iload_n 2, 1) := by decide +kernel
theorem dX3_usedByAny_21 : decode cX3_usedByAny 21 = .ok (.aload_n 0, 1) := by decide +kernel
theorem dX3_usedByAny_22 : decode cX3_usedByAny 22 = .ok (.getfield 25, 3) := by decide +kernel
theorem dX3_usedByAny_25 : decode cX3_usedByAny 25 = .ok (.iload_n 3, 1) := by decide +kernel
theorem dX3_usedByAny_26 : decode cX3_usedByAny 26 = .ok (.iaload, 1) := by decide +kernel
theorem dX3_usedByAny_27 : decode cX3_usedByAny 27 = .ok (.ior, 1) := by decide +kernel
theorem dX3_usedByAny_28 : decode cX3_usedByAny 28 = .ok (.istore_n 2, 1) := by decide +kernel
theorem dX3_usedByAny_29 : decode cX3_usedByAny 29 = .ok (.iinc 3 1, 3) := by decide +kernel
theorem dX3_usedByAny_32 : decode cX3_usedByAny 32 = .ok (.goto (-28), 3) := by decide +kernel
theorem dX3_usedByAny_35 : decode cX3_usedByAny 35 = .ok (.iload_n 2, 1) := by decide +kernel
theorem dX3_usedByAny_36 : decode cX3_usedByAny 36 = .ok (.ireturn, 1) := by decide +kernel
set_option maxRecDepth 20000 in
theorem ggX4_init_X3_init : GoodIn wsX4_init wsX3_init := goodIn_r _ [25, 26, 2, 3, 27, 28, 29, 30, 31, 32, 51, 52, 53, 54, 55] (by decide +kernel) (by decide +kernel)
set_option maxRecDepth 20000 in
theorem gX4_init_X3_init_n9 : GoodIn wsX4_init (wsX3_init) := ggX4_init_X3_init
set_option maxRecDepth 20000 in
theorem ggX4_init_X2_init : GoodIn wsX4_init wsX2_init := goodIn_r _ [34, 35, 2, 3, 30, 36, 37, 64, 65] (by decide +kernel) (by decide +kernel)
set_option maxRecDepth 20000 in
theorem gX4_init_X2_init_n22 : GoodIn wsX4_init (wsX2_init) := ggX4_init_X2_init
set_option maxRecDepth 20000 in
theorem ggX4_init_X0_init : GoodIn wsX4_init wsX0_init := goodIn_r _ [39, 40, 2, 3, 41, 30, 42, 43, 66, 67, 68] (by decide +kernel) (by decide +kernel)
set_option maxRecDepth 20000 in
theorem gX4_init_X0_init_n29 : GoodIn wsX4_init (wsX0_init) := ggX4_init_X0_init
set_option maxRecDepth 20000 in
theorem ggX4_init_X1_init : GoodIn wsX4_init wsX1_init := goodIn_r _ [45, 46, 2, 3, 47, 48, 49, 50, 69, 70, 71] (by decide +kernel) (by decide +kernel)
set_option maxRecDepth 20000 in
theorem gX4_init_X1_init_n36 : GoodIn wsX4_init (wsX1_init) := ggX4_init_X1_init
theorem dX4_init_0 : decode cX4_init 0 = .ok (.aload_n 0, 1) := by decide +kernel
theorem dX4_init_1 : decode cX4_init 1 = .ok (.invokespecial 1, 3) := by decide +kernel
theorem dX4_init_4 : decode cX4_init 4 = .ok (.aload_n 0, 1) := by decide +kernel
theorem dX4_init_5 : decode cX4_init 5 = .ok (.new 7, 3) := by decide +kernel
theorem dX4_init_8 : decode cX4_init 8 = .ok (.dup, 1) := by decide +kernel
theorem dX4_init_9 : decode cX4_init 9 = .ok (.invokespecial 9, 3) := by decide +kernel
theorem dX4_init_12 : decode cX4_init 12 = .ok (.putfield 10, 3) := by decide +kernel
theorem dX4_init_15 : decode cX4_init 15 = .ok (.aload_n 0, 1) := by decide +kernel
theorem dX4_init_16 : decode cX4_init 16 = .ok (.iconst 2, 1) := by decide +kernel
theorem dX4_init_17 : decode cX4_init 17 = .ok (.anewarray 7, 3) := by decide +kernel
theorem dX4_init_20 : decode cX4_init 20 = .ok (.dup, 1) := by decide +kernel
theorem dX4_init_21 : decode cX4_init 21 = .ok (.iconst 0, 1) := by decide +kernel
theorem dX4_init_22 : decode cX4_init 22 = .ok (.new 7, 3) := by decide +kernel
theorem dX4_init_25 : decode cX4_init 25 = .ok (.dup, 1) := by decide +kernel
theorem dX4_init_26 : decode cX4_init 26 = .ok (.invokespecial 9, 3) := by decide +kernel
theorem dX4_init_29 : decode cX4_init 29 = .ok (.aastore, 1) := by decide +kernel
theorem dX4_init_30 : decode cX4_init 30 = .ok (.dup, 1) := by decide +kernel
theorem dX4_init_31 : decode cX4_init 31 = .ok (.iconst 1, 1) := by decide +kernel
theorem dX4_init_32 : decode cX4_init 32 = .ok (.new 7, 3) := by decide +kernel
theorem dX4_init_35 : decode cX4_init 35 = .ok (.dup, 1) := by decide +kernel
theorem dX4_init_36 : decode cX4_init 36 = .ok (.invokespecial 9, 3) := by decide +kernel
theorem dX4_init_39 : decode cX4_init 39 = .ok (.aastore, 1) := by decide +kernel
theorem dX4_init_40 : decode cX4_init 40 = .ok (.putfield 16, 3) := by decide +kernel
theorem dX4_init_43 : decode cX4_init 43 = .ok (.aload_n 0, 1) := by decide +kernel
theorem dX4_init_44 : decode cX4_init 44 = .ok (.new 20, 3) := by decide +kernel
theorem dX4_init_47 : decode cX4_init 47 = .ok (.dup, 1) := by decide +kernel
theorem dX4_init_48 : decode cX4_init 48 = .ok (.invokespecial 22, 3) := by decide +kernel
theorem dX4_init_51 : decode cX4_init 51 = .ok (.putfield 23, 3) := by decide +kernel
theorem dX4_init_54 : decode cX4_init 54 = .ok (.aload_n 0, 1) := by decide +kernel
theorem dX4_init_55 : decode cX4_init 55 = .ok (.new 27, 3) := by decide +kernel
theorem dX4_init_58 : decode cX4_init 58 = .ok (.dup, 1) := by decide +kernel
theorem dX4_init_59 : decode cX4_init 59 = .ok (.invokespecial 29, 3) := by decide +kernel
theorem dX4_init_62 : decode cX4_init 62 = .ok (.putfield 30, 3) := by decide +kernel
theorem dX4_init_65 : decode cX4_init 65 = .ok (.aload_n 0, 1) := by decide +kernel
theorem dX4_init_66 : decode cX4_init 66 = .ok (.new 34, 3) := by decide +kernel
theorem dX4_init_69 : decode cX4_init 69 = .ok (.dup, 1) := by decide +kernel
theorem dX4_init_70 : decode cX4_init 70 = .ok (.invokespecial 36, 3) := by decide +kernel
theorem dX4_init_73 : decode cX4_init 73 = .ok (.putfield 37, 3) := by decide +kernel
theorem dX4_init_76 : decode cX4_init 76 = .ok (.aload_n 0, 1) := by decide +kernel
theorem dX4_init_77 : decode cX4_init 77 = .ok (.iconst 0, 1) := by decide +kernel
theorem dX4_init_78 : decode cX4_init 78 = .ok (.putfield 41, 3) := by decide +kernel
theorem dX4_init_81 : decode cX4_init 81 = .ok (.aload_n 0, 1) := by decide +kernel
theorem dX4_init_82 : decode cX4_init 82 = .ok (.bipush (-6), 2) := by decide +kernel
theorem dX4_init_84 : decode cX4_init 84 = .ok (.putfield 45, 3) := by decide +kernel
theorem dX4_init_87 : decode cX4_init 87 = .ok (.aload_n 0, 1) := by decide +kernel
theorem dX4_init_88 : decode cX4_init 88 = .ok (.iconst 0, 1) := by decide +kernel
theorem dX4_init_89 : decode cX4_init 89 = .ok (.putfield 48, 3) := by decide +kernel
theorem dX4_init_92 : decode cX4_init 92 = .ok (.return_, 1) := by decide +kernel
set_option maxRecDepth 20000 in
theorem ggX4_size_X3_resize : GoodIn wsX4_size wsX3_resize := goodIn_r _ [6, 7, 8, 9, 10, 11, 12, 13, 4, 14, 15, 16, 17, 18, 19, 28, 29, 30, 31, 32] (by decide +kernel) (by decide +kernel)
set_option maxRecDepth 20000 in
theorem gX4_size_X3_resize_n55 : GoodIn wsX4_size (wsX3_resize) := ggX4_size_X3_resize
theorem dX4_size_0 : decode cX4_size 0 = .ok (.iload_n 1, 1) := by decide +kernel
theorem dX4_size_1 : decode cX4_size 1 = .ok (.iconst 1, 1) := by decide +kernel
theorem dX4_size_2 : decode cX4_size 2 = .ok (.if_icmp .lt 9, 3) := by decide +kernel
theorem dX4_size_5 : decode cX4_size 5 = .ok (.iload_n 1, 1) := by decide +kernel
theorem dX4_size_6 : decode cX4_size 6 = .ok (.bipush 14, 2) := by decide +kernel
theorem dX4_size_8 : decode cX4_size 8 = .ok (.if_icmp .le 6, 3) := by decide +kernel
theorem dX4_size_11 : decode cX4_size 11 = .ok (.bipush (-2), 2) := by decide +kernel
theorem dX4_size_13 : decode cX4_size 13 = .ok (.ireturn, 1) := by decide +kernel
theorem dX4_size_14 : decode cX4_size 14 = .ok (.aload_n 0, 1) := by decide +kernel
theorem dX4_size_15 : decode cX4_size 15 = .ok (.getfield 10, 3) := by decide +kernel
theorem dX4_size_18 : decode cX4_size 18 = .ok (.getfield 52, 3) := by decide +kernel
theorem dX4_size_21 : decode cX4_size 21 = .ok (.istore_n 2, 1) := by decide +kernel
theorem dX4_size_22 : decode cX4_size 22 = .ok (.aload_n 0, 1) := by decide +kernel
theorem dX4_size_23 : decode cX4_size 23 = .ok (.getfield 10, 3) := by decide +kernel
theorem dX4_size_26 : decode cX4_size 26 = .ok (.iload_n 1, 1) := by decide +kernel
theorem dX4_size_27 : decode cX4_size 27 = .ok (.invokevirtual 55, 3) := by decide +kernel
theorem dX4_size_30 : decode cX4_size 30 = .ok (.aload_n 0, 1) := by decide +kernel
theorem dX4_size_31 : decode cX4_size 31 = .ok (.iconst 0, 1) := by decide +kernel
theorem dX4_size_32 : decode cX4_size 32 = .ok (.putfield 48, 3) := by decide +kernel
theorem dX4_size_35 : decode cX4_size 35 = .ok (.iload_n 2, 1) := by decide +kernel
theorem dX4_size_36 : decode cX4_size 36 = .ok (.ireturn, 1) := by decide +kernel
set_option maxRecDepth 20000 in
theorem ggX4_say_X2_append : GoodIn wsX4_say wsX2_append := goodIn_r _ [5, 6, 7, 16, 17] (by decide +kernel) (by decide +kernel)
set_option maxRecDepth 20000 in
theorem gX4_say_X2_append_n62 : GoodIn wsX4_say (wsX2_append) := ggX4_say_X2_append
theorem dX4_say_0 : decode cX4_say 0 = .ok (.iload_n 1, 1) := by decide +kernel
theorem dX4_say_1 : decode cX4_say 1 = .ok (.bipush 33, 2) := by decide +kernel
theorem dX4_say_3 : decode cX4_say 3 = .ok (.if_icmp .lt 9, 3) := by decide +kernel
theorem dX4_say_6 : decode cX4_say 6 = .ok (.iload_n 1, 1) := by decide +kernel
theorem dX4_say_7 : decode cX4_say 7 = .ok (.bipush 126, 2) := by decide +kernel
theorem dX4_say_9 : decode cX4_say 9 = .ok (.if_icmp .le 6, 3) := by decide +kernel
theorem dX4_say_12 : decode cX4_say 12 = .ok (.bipush (-2), 2) := by decide +kernel
theorem dX4_say_14 : decode cX4_say 14 = .ok (.ireturn, 1) := by decide +kernel
theorem dX4_say_15 : decode cX4_say 15 = .ok (.aload_n 0, 1) := by decide +kernel
theorem dX4_say_16 : decode cX4_say 16 = .ok (.getfield 23, 3) := by decide +kernel
theorem dX4_say_19 : decode cX4_say 19 = .ok (.getfield 59, 3) := by decide +kernel
theorem dX4_say_22 : decode cX4_say 22 = .ok (.bipush 20, 2) := by decide +kernel
theorem dX4_say_24 : decode cX4_say 24 = .ok (.if_icmp .lt 6, 3) := by decide +kernel
theorem dX4_say_27 : decode cX4_say 27 = .ok (.bipush (-3), 2) := by decide +kernel
theorem dX4_say_29 : decode cX4_say 29 = .ok (.ireturn, 1) := by decide +kernel
theorem dX4_say_30 : decode cX4_say 30 = .ok (.aload_n 0, 1) := by decide +kernel
theorem dX4_say_31 : decode cX4_say 31 = .ok (.getfield 23, 3) := by decide +kernel
theorem dX4_say_34 : decode cX4_say 34 = .ok (.iload_n 1, 1) := by decide +kernel
theorem dX4_say_35 : decode cX4_say 35 = .ok (.invokevirtual 62, 3) := by decide +kernel
theorem dX4_say_38 : decode cX4_say 38 = .ok (.aload_n 0, 1) := by decide +kernel
theorem dX4_say_39 : decode cX4_say 39 = .ok (.getfield 23, 3) := by decide +kernel
theorem dX4_say_42 : decode cX4_say 42 = .ok (.getfield 59, 3) := by decide +kernel
theorem dX4_say_45 : decode cX4_say 45 = .ok (.ireturn, 1) := by decide +kernel
theorem dX4_wipe_0 : decode cX4_wipe 0 = .ok (.aload_n 0, 1) := by decide +kernel
theorem dX4_wipe_1 : decode cX4_wipe 1 = .ok (.getfield 23, 3) := by decide +kernel
theorem dX4_wipe_4 : decode cX4_wipe 4 = .ok (.getfield 59, 3) := by decide +kernel
theorem dX4_wipe_7 : decode cX4_wipe 7 = .ok (.istore_n 1, 1) := by decide +kernel
theorem dX4_wipe_8 : decode cX4_wipe 8 = .ok (.aload_n 0, 1) := by decide +kernel
theorem dX4_wipe_9 : decode cX4_wipe 9 = .ok (.getfield 23, 3) := by decide +kernel
theorem dX4_wipe_12 : decode cX4_wipe 12 = .ok (.iconst 0, 1) := by decide +kernel
theorem dX4_wipe_13 : decode cX4_wipe 13 = .ok (.putfield 59, 3) := by decide +kernel
theorem dX4_wipe_16 : decode cX4_wipe 16 = .ok (.iload_n 1, 1) := by decide +kernel
theorem dX4_wipe_17 : decode cX4_wipe 17 = .ok (.ireturn, 1) := by decide +kernel
set_option maxRecDepth 20000 in
theorem ggX4_define_X2_faultPlace : GoodIn wsX4_define wsX2_faultPlace := goodIn_r _ [8, 9, 10, 11, 12, 6, 13, 14, 15, 16, 17, 56, 57] (by decide +kernel) (by decide +kernel)
set_option maxRecDepth 20000 in
theorem gX4_define_X2_faultPlace_n65 : GoodIn wsX4_define (wsX2_faultPlace) := ggX4_define_X2_faultPlace
set_option maxRecDepth 20000 in
theorem ggX4_define_X2_toldWord : GoodIn wsX4_define wsX2_toldWord := goodIn_r _ [20, 10, 56, 57] (by decide +kernel) (by decide +kernel)
set_option maxRecDepth 20000 in
theorem gX4_define_X2_toldWord_n69 : GoodIn wsX4_define (wsX2_toldWord) := ggX4_define_X2_toldWord
set_option maxRecDepth 20000 in
theorem ggX4_define_X2_tellsBare : GoodIn wsX4_define wsX2_tellsBare := goodIn_r _ [17, 10, 56, 57] (by decide +kernel) (by decide +kernel)
set_option maxRecDepth 20000 in
theorem gX4_define_X2_tellsBare_n73 : GoodIn wsX4_define (wsX2_tellsBare) := ggX4_define_X2_tellsBare
set_option maxRecDepth 20000 in
theorem ggX4_define_X3_makeBare : GoodIn wsX4_define wsX3_makeBare := goodIn_r _ [24, 25, 26, 51, 52, 53, 54, 55] (by decide +kernel) (by decide +kernel)
set_option maxRecDepth 20000 in
theorem gX4_define_X3_makeBare_n77 : GoodIn wsX4_define (wsX3_makeBare) := ggX4_define_X3_makeBare
set_option maxRecDepth 20000 in
theorem ggX4_define_X2_toldSet : GoodIn wsX4_define wsX2_toldSet := goodIn_r _ [29, 9, 10, 11, 12, 6, 13, 56, 57] (by decide +kernel) (by decide +kernel)
set_option maxRecDepth 20000 in
theorem gX4_define_X2_toldSet_n80 : GoodIn wsX4_define (wsX2_toldSet) := ggX4_define_X2_toldSet
set_option maxRecDepth 20000 in
theorem ggX4_define_X3_setDefinition : GoodIn wsX4_define wsX3_setDefinition := goodIn_r _ [32, 25, 26, 51, 52, 53, 54, 55] (by decide +kernel) (by decide +kernel)
set_option maxRecDepth 20000 in
theorem gX4_define_X3_setDefinition_n83 : GoodIn wsX4_define (wsX3_setDefinition) := ggX4_define_X3_setDefinition
set_option maxRecDepth 20000 in
theorem ggX4_define_X3_isBare : GoodIn wsX4_define wsX3_isBare := goodIn_r _ [35, 26, 51, 52, 53, 54, 55] (by decide +kernel) (by decide +kernel)
set_option maxRecDepth 20000 in
theorem gX4_define_X3_isBare_n87 : GoodIn wsX4_define (wsX3_isBare) := ggX4_define_X3_isBare
set_option maxRecDepth 20000 in
theorem ggX4_define_J6_bitCount_0f7a4 : GoodIn wsX4_define wsJ6_bitCount_0f7a4 := goodIn_r _ [39, 40, 41, 42] (by decide +kernel) (by decide +kernel)
set_option maxRecDepth 20000 in
theorem gX4_define_J6_bitCount_0f7a4 : GoodIn wsX4_define (va_wsS RX4 95 yJ6_bitCount_0f7a4 wsJ6_bitCount_0f7a4) := goodIn_app (goodIn_of _ (by decide +kernel)) ggX4_define_J6_bitCount_0f7a4
theorem dX4_define_0 : decode cX4_define 0 = .ok (.aload_n 0, 1) := by decide +kernel
theorem dX4_define_1 : decode cX4_define 1 = .ok (.getfield 23, 3) := by decide +kernel
theorem dX4_define_4 : decode cX4_define 4 = .ok (.aload_n 0, 1) := by decide +kernel
theorem dX4_define_5 : decode cX4_define 5 = .ok (.getfield 10, 3) := by decide +kernel
theorem dX4_define_8 : decode cX4_define 8 = .ok (.getfield 52, 3) := by decide +kernel
theorem dX4_define_11 : decode cX4_define 11 = .ok (.invokevirtual 65, 3) := by decide +kernel
theorem dX4_define_14 : decode cX4_define 14 = .ok (.istore_n 1, 1) := by decide +kernel
theorem dX4_define_15 : decode cX4_define 15 = .ok (.iload_n 1, 1) := by decide +kernel
theorem dX4_define_16 : decode cX4_define 16 = .ok (.bipush (-6), 2) := by decide +kernel
theorem dX4_define_18 : decode cX4_define 18 = .ok (.if_icmp .eq 11, 3) := by decide +kernel
theorem dX4_define_21 : decode cX4_define 21 = .ok (.aload_n 0, 1) := by decide +kernel
theorem dX4_define_22 : decode cX4_define 22 = .ok (.iload_n 1, 1) := by decide +kernel
theorem dX4_define_23 : decode cX4_define 23 = .ok (.putfield 45, 3) := by decide +kernel
theorem dX4_define_26 : decode cX4_define 26 = .ok (.bipush (-7), 2) := by decide +kernel
theorem dX4_define_28 : decode cX4_define 28 = .ok (.ireturn, 1) := by decide +kernel
theorem dX4_define_29 : decode cX4_define 29 = .ok (.aload_n 0, 1) := by decide +kernel
theorem dX4_define_30 : decode cX4_define 30 = .ok (.getfield 23, 3) := by decide +kernel
theorem dX4_define_33 : decode cX4_define 33 = .ok (.invokevirtual 69, 3) := by decide +kernel
theorem dX4_define_36 : decode cX4_define 36 = .ok (.istore_n 2, 1) := by decide +kernel
theorem dX4_define_37 : decode cX4_define 37 = .ok (.aload_n 0, 1) := by decide +kernel
theorem dX4_define_38 : decode cX4_define 38 = .ok (.getfield 23, 3) := by decide +kernel
theorem dX4_define_41 : decode cX4_define 41 = .ok (.invokevirtual 73, 3) := by decide +kernel
theorem dX4_define_44 : decode cX4_define 44 = .ok (.ifCond .eq 14, 3) := by decide +kernel
theorem dX4_define_47 : decode cX4_define 47 = .ok (.aload_n 0, 1) := by decide +kernel
theorem dX4_define_48 : decode cX4_define 48 = .ok (.getfield 10, 3) := by decide +kernel
theorem dX4_define_51 : decode cX4_define 51 = .ok (.iload_n 2, 1) := by decide +kernel
theorem dX4_define_52 : decode cX4_define 52 = .ok (.invokevirtual 77, 3) := by decide +kernel
theorem dX4_define_55 : decode cX4_define 55 = .ok (.goto 18, 3) := by decide +kernel
theorem dX4_define_58 : decode cX4_define 58 = .ok (.aload_n 0, 1) := by decide +kernel
theorem dX4_define_59 : decode cX4_define 59 = .ok (.getfield 10, 3) := by decide +kernel
theorem dX4_define_62 : decode cX4_define 62 = .ok (.iload_n 2, 1) := by decide +kernel
theorem dX4_define_63 : decode cX4_define 63 = .ok (.aload_n 0, 1) := by decide +kernel
theorem dX4_define_64 : decode cX4_define 64 = .ok (.getfield 23, 3) := by decide +kernel
theorem dX4_define_67 : decode cX4_define 67 = .ok (.invokevirtual 80, 3) := by decide +kernel
theorem dX4_define_70 : decode cX4_define 70 = .ok (.invokevirtual 83, 3) := by decide +kernel
theorem dX4_define_73 : decode cX4_define 73 = .ok (.aload_n 0, 1) := by decide +kernel
theorem dX4_define_74 : decode cX4_define 74 = .ok (.getfield 23, 3) := by decide +kernel
theorem dX4_define_77 : decode cX4_define 77 = .ok (.iconst 0, 1) := by decide +kernel
theorem dX4_define_78 : decode cX4_define 78 = .ok (.putfield 59, 3) := by decide +kernel
theorem dX4_define_81 : decode cX4_define 81 = .ok (.aload_n 0, 1) := by decide +kernel
theorem dX4_define_82 : decode cX4_define 82 = .ok (.iconst 0, 1) := by decide +kernel
theorem dX4_define_83 : decode cX4_define 83 = .ok (.putfield 48, 3) := by decide +kernel
theorem dX4_define_86 : decode cX4_define 86 = .ok (.aload_n 0, 1) := by decide +kernel
theorem dX4_define_87 : decode cX4_define 87 = .ok (.getfield 10, 3) := by decide +kernel
theorem dX4_define_90 : decode cX4_define 90 = .ok (.iload_n 2, 1) := by decide +kernel
theorem dX4_define_91 : decode cX4_define 91 = .ok (.invokevirtual 87, 3) := by decide +kernel
theorem dX4_define_94 : decode cX4_define 94 = .ok (.ifCond .eq 8, 3) := by decide +kernel
theorem dX4_define_97 : decode cX4_define 97 = .ok (.bipush (-6), 2) := by decide +kernel
theorem dX4_define_99 : decode cX4_define 99 = .ok (.goto 15, 3) := by decide +kernel
theorem dX4_define_102 : decode cX4_define 102 = .ok (.aload_n 0, 1) := by decide +kernel
theorem dX4_define_103 : decode cX4_define 103 = .ok (.getfield 10, 3) := by decide +kernel
theorem dX4_define_106 : decode cX4_define 106 = .ok (.getfield 91, 3) := by decide +kernel
theorem dX4_define_109 : decode cX4_define 109 = .ok (.iload_n 2, 1) := by decide +kernel
theorem dX4_define_110 : decode cX4_define 110 = .ok (.iaload, 1) := by decide +kernel
theorem dX4_define_111 : decode cX4_define 111 = .ok (.invokestatic 95, 3) := by decide +kernel
theorem dX4_define_114 : decode cX4_define 114 = .ok (.ireturn, 1) := by decide +kernel
set_option maxRecDepth 20000 in
theorem ggX4_fault_X2_faultPlace : GoodIn wsX4_fault wsX2_faultPlace := goodIn_r _ [6, 7, 8, 9, 10, 4, 11, 12, 13, 14, 15, 29, 30] (by decide +kernel) (by decide +kernel)
set_option maxRecDepth 20000 in
theorem gX4_fault_X2_faultPlace_n65 : GoodIn wsX4_fault (wsX2_faultPlace) := ggX4_fault_X2_faultPlace
theorem dX4_fault_0 : decode cX4_fault 0 = .ok (.aload_n 0, 1) := by decide +kernel
theorem dX4_fault_1 : decode cX4_fault 1 = .ok (.getfield 23, 3) := by decide +kernel
theorem dX4_fault_4 : decode cX4_fault 4 = .ok (.aload_n 0, 1) := by decide +kernel
theorem dX4_fault_5 : decode cX4_fault 5 = .ok (.getfield 10, 3) := by decide +kernel
theorem dX4_fault_8 : decode cX4_fault 8 = .ok (.getfield 52, 3) := by decide +kernel
theorem dX4_fault_11 : decode cX4_fault 11 = .ok (.invokevirtual 65, 3) := by decide +kernel
theorem dX4_fault_14 : decode cX4_fault 14 = .ok (.ireturn, 1) := by decide +kernel
set_option maxRecDepth 20000 in
theorem ggX4_uses_X3_has : GoodIn wsX4_uses wsX3_has := goodIn_r _ [5, 6, 19, 20, 21, 22, 23] (by decide +kernel) (by decide +kernel)
set_option maxRecDepth 20000 in
theorem gX4_uses_X3_has_n100 : GoodIn wsX4_uses (wsX3_has) := ggX4_uses_X3_has
set_option maxRecDepth 20000 in
theorem ggX4_uses_X3_isBare : GoodIn wsX4_uses wsX3_isBare := goodIn_r _ [9, 10, 19, 20, 21, 22, 23] (by decide +kernel) (by decide +kernel)
set_option maxRecDepth 20000 in
theorem gX4_uses_X3_isBare_n87 : GoodIn wsX4_uses (wsX3_isBare) := ggX4_uses_X3_isBare
theorem dX4_uses_0 : decode cX4_uses 0 = .ok (.aload_n 0, 1) := by decide +kernel
theorem dX4_uses_1 : decode cX4_uses 1 = .ok (.getfield 10, 3) := by decide +kernel
theorem dX4_uses_4 : decode cX4_uses 4 = .ok (.iload_n 1, 1) := by decide +kernel
theorem dX4_uses_5 : decode cX4_uses 5 = .ok (.invokevirtual 100, 3) := by decide +kernel
theorem dX4_uses_8 : decode cX4_uses 8 = .ok (.ifCond .ne 5, 3) := by decide +kernel
theorem dX4_uses_11 : decode cX4_uses 11 = .ok (.iconst (-1), 1) := by decide +kernel
theorem dX4_uses_12 : decode cX4_uses 12 = .ok (.ireturn, 1) := by decide +kernel
theorem dX4_uses_13 : decode cX4_uses 13 = .ok (.aload_n 0, 1) := by decide +kernel
theorem dX4_uses_14 : decode cX4_uses 14 = .ok (.getfield 10, 3) := by decide +kernel
theorem dX4_uses_17 : decode cX4_uses 17 = .ok (.iload_n 1, 1) := by decide +kernel
theorem dX4_uses_18 : decode cX4_uses 18 = .ok (.invokevirtual 87, 3) := by decide +kernel
theorem dX4_uses_21 : decode cX4_uses 21 = .ok (.ifCond .eq 8, 3) := by decide +kernel
theorem dX4_uses_24 : decode cX4_uses 24 = .ok (.bipush (-6), 2) := by decide +kernel
theorem dX4_uses_26 : decode cX4_uses 26 = .ok (.goto 12, 3) := by decide +kernel
theorem dX4_uses_29 : decode cX4_uses 29 = .ok (.aload_n 0, 1) := by decide +kernel
theorem dX4_uses_30 : decode cX4_uses 30 = .ok (.getfield 10, 3) := by decide +kernel
theorem dX4_uses_33 : decode cX4_uses 33 = .ok (.getfield 91, 3) := by decide +kernel
theorem dX4_uses_36 : decode cX4_uses 36 = .ok (.iload_n 1, 1) := by decide +kernel
theorem dX4_uses_37 : decode cX4_uses 37 = .ok (.iaload, 1) := by decide +kernel
theorem dX4_uses_38 : decode cX4_uses 38 = .ok (.ireturn, 1) := by decide +kernel
set_option maxRecDepth 20000 in
theorem ggX4_users_X3_has : GoodIn wsX4_users wsX3_has := goodIn_r _ [5, 6, 19, 20, 21, 22, 23] (by decide +kernel) (by decide +kernel)
set_option maxRecDepth 20000 in
theorem gX4_users_X3_has_n100 : GoodIn wsX4_users (wsX3_has) := ggX4_users_X3_has
set_option maxRecDepth 20000 in
theorem ggX4_users_X3_usersOf : GoodIn wsX4_users wsX3_usersOf := goodIn_r _ [9, 6, 10, 19, 20, 21, 22, 23] (by decide +kernel) (by decide +kernel)
set_option maxRecDepth 20000 in
theorem gX4_users_X3_usersOf_n103 : GoodIn wsX4_users (wsX3_usersOf) := ggX4_users_X3_usersOf
theorem dX4_users_0 : decode cX4_users 0 = .ok (.aload_n 0, 1) := by decide +kernel
theorem dX4_users_1 : decode cX4_users 1 = .ok (.getfield 10, 3) := by decide +kernel
theorem dX4_users_4 : decode cX4_users 4 = .ok (.iload_n 1, 1) := by decide +kernel
theorem dX4_users_5 : decode cX4_users 5 = .ok (.invokevirtual 100, 3) := by decide +kernel
theorem dX4_users_8 : decode cX4_users 8 = .ok (.ifCond .ne 5, 3) := by decide +kernel
theorem dX4_users_11 : decode cX4_users 11 = .ok (.iconst (-1), 1) := by decide +kernel
theorem dX4_users_12 : decode cX4_users 12 = .ok (.ireturn, 1) := by decide +kernel
theorem dX4_users_13 : decode cX4_users 13 = .ok (.aload_n 0, 1) := by decide +kernel
theorem dX4_users_14 : decode cX4_users 14 = .ok (.getfield 10, 3) := by decide +kernel
theorem dX4_users_17 : decode cX4_users 17 = .ok (.iload_n 1, 1) := by decide +kernel
theorem dX4_users_18 : decode cX4_users 18 = .ok (.invokevirtual 103, 3) := by decide +kernel
theorem dX4_users_21 : decode cX4_users 21 = .ok (.ireturn, 1) := by decide +kernel
set_option maxRecDepth 20000 in
theorem ggX4_cost_X3_has : GoodIn wsX4_cost wsX3_has := goodIn_r _ [5, 6, 15, 16, 17, 18, 19] (by decide +kernel) (by decide +kernel)
set_option maxRecDepth 20000 in
theorem gX4_cost_X3_has_n100 : GoodIn wsX4_cost (wsX3_has) := ggX4_cost_X3_has
theorem dX4_cost_0 : decode cX4_cost 0 = .ok (.aload_n 0, 1) := by decide +kernel
theorem dX4_cost_1 : decode cX4_cost 1 = .ok (.getfield 10, 3) := by decide +kernel
theorem dX4_cost_4 : decode cX4_cost 4 = .ok (.iload_n 1, 1) := by decide +kernel
theorem dX4_cost_5 : decode cX4_cost 5 = .ok (.invokevirtual 100, 3) := by decide +kernel
theorem dX4_cost_8 : decode cX4_cost 8 = .ok (.ifCond .ne 5, 3) := by decide +kernel
theorem dX4_cost_11 : decode cX4_cost 11 = .ok (.iconst (-1), 1) := by decide +kernel
theorem dX4_cost_12 : decode cX4_cost 12 = .ok (.ireturn, 1) := by decide +kernel
theorem dX4_cost_13 : decode cX4_cost 13 = .ok (.iload_n 2, 1) := by decide +kernel
theorem dX4_cost_14 : decode cX4_cost 14 = .ok (.iconst 1, 1) := by decide +kernel
theorem dX4_cost_15 : decode cX4_cost 15 = .ok (.if_icmp .lt 9, 3) := by decide +kernel
theorem dX4_cost_18 : decode cX4_cost 18 = .ok (.iload_n 2, 1) := by decide +kernel
theorem dX4_cost_19 : decode cX4_cost 19 = .ok (.bipush 9, 2) := by decide +kernel
theorem dX4_cost_21 : decode cX4_cost 21 = .ok (.if_icmp .le 6, 3) := by decide +kernel
theorem dX4_cost_24 : decode cX4_cost 24 = .ok (.bipush (-2), 2) := by decide +kernel
theorem dX4_cost_26 : decode cX4_cost 26 = .ok (.ireturn, 1) := by decide +kernel
theorem dX4_cost_27 : decode cX4_cost 27 = .ok (.aload_n 0, 1) := by decide +kernel
theorem dX4_cost_28 : decode cX4_cost 28 = .ok (.getfield 10, 3) := by decide +kernel
theorem dX4_cost_31 : decode cX4_cost 31 = .ok (.getfield 106, 3) := by decide +kernel
theorem dX4_cost_34 : decode cX4_cost 34 = .ok (.iload_n 1, 1) := by decide +kernel
theorem dX4_cost_35 : decode cX4_cost 35 = .ok (.iaload, 1) := by decide +kernel
theorem dX4_cost_36 : decode cX4_cost 36 = .ok (.istore_n 3, 1) := by decide +kernel
theorem dX4_cost_37 : decode cX4_cost 37 = .ok (.aload_n 0, 1) := by decide +kernel
theorem dX4_cost_38 : decode cX4_cost 38 = .ok (.getfield 10, 3) := by decide +kernel
theorem dX4_cost_41 : decode cX4_cost 41 = .ok (.getfield 106, 3) := by decide +kernel
theorem dX4_cost_44 : decode cX4_cost 44 = .ok (.iload_n 1, 1) := by decide +kernel
theorem dX4_cost_45 : decode cX4_cost 45 = .ok (.iload_n 2, 1) := by decide +kernel
theorem dX4_cost_46 : decode cX4_cost 46 = .ok (.iastore, 1) := by decide +kernel
theorem dX4_cost_47 : decode cX4_cost 47 = .ok (.iload_n 3, 1) := by decide +kernel
theorem dX4_cost_48 : decode cX4_cost 48 = .ok (.ireturn, 1) := by decide +kernel
set_option maxRecDepth 20000 in
theorem ggX4_grounds_X3_hasAll : GoodIn wsX4_grounds wsX3_hasAll := goodIn_r _ [5, 6, 7, 8, 3, 9, 10, 32, 33, 34, 35, 36] (by decide +kernel) (by decide +kernel)
set_option maxRecDepth 20000 in
theorem gX4_grounds_X3_hasAll_n109 : GoodIn wsX4_grounds (wsX3_hasAll) := ggX4_grounds_X3_hasAll
set_option maxRecDepth 20000 in
theorem ggX4_grounds_X3_groundedBy : GoodIn wsX4_grounds wsX3_groundedBy := goodIn_r _ [13, 10, 14, 15, 16, 3, 17, 18, 19, 20, 21, 22, 23, 32, 33, 34, 35, 36] (by decide +kernel) (by decide +kernel)
set_option maxRecDepth 20000 in
theorem gX4_grounds_X3_groundedBy_n112 : GoodIn wsX4_grounds (wsX3_groundedBy) := ggX4_grounds_X3_groundedBy
theorem dX4_grounds_0 : decode cX4_grounds 0 = .ok (.aload_n 0, 1) := by decide +kernel
theorem dX4_grounds_1 : decode cX4_grounds 1 = .ok (.getfield 10, 3) := by decide +kernel
theorem dX4_grounds_4 : decode cX4_grounds 4 = .ok (.iload_n 1, 1) := by decide +kernel
theorem dX4_grounds_5 : decode cX4_grounds 5 = .ok (.invokevirtual 109, 3) := by decide +kernel
theorem dX4_grounds_8 : decode cX4_grounds 8 = .ok (.ifCond .ne 6, 3) := by decide +kernel
theorem dX4_grounds_11 : decode cX4_grounds 11 = .ok (.bipush (-2), 2) := by decide +kernel
theorem dX4_grounds_13 : decode cX4_grounds 13 = .ok (.ireturn, 1) := by decide +kernel
theorem dX4_grounds_14 : decode cX4_grounds 14 = .ok (.aload_n 0, 1) := by decide +kernel
theorem dX4_grounds_15 : decode cX4_grounds 15 = .ok (.getfield 10, 3) := by decide +kernel
theorem dX4_grounds_18 : decode cX4_grounds 18 = .ok (.iload_n 1, 1) := by decide +kernel
theorem dX4_grounds_19 : decode cX4_grounds 19 = .ok (.invokevirtual 112, 3) := by decide +kernel
theorem dX4_grounds_22 : decode cX4_grounds 22 = .ok (.ireturn, 1) := by decide +kernel
set_option maxRecDepth 20000 in
theorem ggX4_day_X3_has : GoodIn wsX4_day wsX3_has := goodIn_r _ [5, 6, 35, 36, 37, 38, 39] (by decide +kernel) (by decide +kernel)
set_option maxRecDepth 20000 in
theorem gX4_day_X3_has_n100 : GoodIn wsX4_day (wsX3_has) := ggX4_day_X3_has
set_option maxRecDepth 20000 in
theorem ggX4_day_X3_hasAll : GoodIn wsX4_day wsX3_hasAll := goodIn_r _ [9, 10, 11, 12, 3, 13, 6, 35, 36, 37, 38, 39] (by decide +kernel) (by decide +kernel)
set_option maxRecDepth 20000 in
theorem gX4_day_X3_hasAll_n109 : GoodIn wsX4_day (wsX3_hasAll) := ggX4_day_X3_hasAll
set_option maxRecDepth 20000 in
theorem ggX4_day_X3_daysTill : GoodIn wsX4_day wsX3_daysTill := goodIn_r _ [16, 6, 17, 18, 19, 3, 20, 21, 22, 23, 24, 25, 26, 35, 36, 37, 38, 39] (by decide +kernel) (by decide +kernel)
set_option maxRecDepth 20000 in
theorem gX4_day_X3_daysTill_n115 : GoodIn wsX4_day (wsX3_daysTill) := ggX4_day_X3_daysTill
theorem dX4_day_0 : decode cX4_day 0 = .ok (.aload_n 0, 1) := by decide +kernel
theorem dX4_day_1 : decode cX4_day 1 = .ok (.getfield 10, 3) := by decide +kernel
theorem dX4_day_4 : decode cX4_day 4 = .ok (.iload_n 1, 1) := by decide +kernel
theorem dX4_day_5 : decode cX4_day 5 = .ok (.invokevirtual 100, 3) := by decide +kernel
theorem dX4_day_8 : decode cX4_day 8 = .ok (.ifCond .ne 5, 3) := by decide +kernel
theorem dX4_day_11 : decode cX4_day 11 = .ok (.iconst (-1), 1) := by decide +kernel
theorem dX4_day_12 : decode cX4_day 12 = .ok (.ireturn, 1) := by decide +kernel
theorem dX4_day_13 : decode cX4_day 13 = .ok (.aload_n 0, 1) := by decide +kernel
theorem dX4_day_14 : decode cX4_day 14 = .ok (.getfield 10, 3) := by decide +kernel
theorem dX4_day_17 : decode cX4_day 17 = .ok (.iload_n 2, 1) := by decide +kernel
theorem dX4_day_18 : decode cX4_day 18 = .ok (.invokevirtual 109, 3) := by decide +kernel
theorem dX4_day_21 : decode cX4_day 21 = .ok (.ifCond .ne 6, 3) := by decide +kernel
theorem dX4_day_24 : decode cX4_day 24 = .ok (.bipush (-2), 2) := by decide +kernel
theorem dX4_day_26 : decode cX4_day 26 = .ok (.ireturn, 1) := by decide +kernel
theorem dX4_day_27 : decode cX4_day 27 = .ok (.aload_n 0, 1) := by decide +kernel
theorem dX4_day_28 : decode cX4_day 28 = .ok (.getfield 10, 3) := by decide +kernel
theorem dX4_day_31 : decode cX4_day 31 = .ok (.iconst 1, 1) := by decide +kernel
theorem dX4_day_32 : decode cX4_day 32 = .ok (.iload_n 1, 1) := by decide +kernel
theorem dX4_day_33 : decode cX4_day 33 = .ok (.ishl, 1) := by decide +kernel
theorem dX4_day_34 : decode cX4_day 34 = .ok (.iload_n 2, 1) := by decide +kernel
theorem dX4_day_35 : decode cX4_day 35 = .ok (.invokevirtual 115, 3) := by decide +kernel
theorem dX4_day_38 : decode cX4_day 38 = .ok (.ireturn, 1) := by decide +kernel
set_option maxRecDepth 20000 in
theorem ggX4_learned_X3_hasAll : GoodIn wsX4_learned wsX3_hasAll := goodIn_r _ [5, 6, 7, 8, 3, 9, 10, 28, 29, 30, 31, 32] (by decide +kernel) (by decide +kernel)
set_option maxRecDepth 20000 in
theorem gX4_learned_X3_hasAll_n109 : GoodIn wsX4_learned (wsX3_hasAll) := ggX4_learned_X3_hasAll
set_option maxRecDepth 20000 in
theorem ggX4_learned_X3_nextDay : GoodIn wsX4_learned wsX3_nextDay := goodIn_r _ [13, 10, 14, 15, 16, 17, 3, 18, 19, 28, 29, 30, 31, 32] (by decide +kernel) (by decide +kernel)
set_option maxRecDepth 20000 in
theorem gX4_learned_X3_nextDay_n119 : GoodIn wsX4_learned (wsX3_nextDay) := ggX4_learned_X3_nextDay
theorem dX4_learned_0 : decode cX4_learned 0 = .ok (.aload_n 0, 1) := by decide +kernel
theorem dX4_learned_1 : decode cX4_learned 1 = .ok (.getfield 10, 3) := by decide +kernel
theorem dX4_learned_4 : decode cX4_learned 4 = .ok (.iload_n 1, 1) := by decide +kernel
theorem dX4_learned_5 : decode cX4_learned 5 = .ok (.invokevirtual 109, 3) := by decide +kernel
theorem dX4_learned_8 : decode cX4_learned 8 = .ok (.ifCond .eq 14, 3) := by decide +kernel
theorem dX4_learned_11 : decode cX4_learned 11 = .ok (.iload_n 2, 1) := by decide +kernel
theorem dX4_learned_12 : decode cX4_learned 12 = .ok (.iconst 1, 1) := by decide +kernel
theorem dX4_learned_13 : decode cX4_learned 13 = .ok (.if_icmp .lt 9, 3) := by decide +kernel
theorem dX4_learned_16 : decode cX4_learned 16 = .ok (.iload_n 2, 1) := by decide +kernel
theorem dX4_learned_17 : decode cX4_learned 17 = .ok (.bipush 14, 2) := by decide +kernel
theorem dX4_learned_19 : decode cX4_learned 19 = .ok (.if_icmp .le 6, 3) := by decide +kernel
theorem dX4_learned_22 : decode cX4_learned 22 = .ok (.bipush (-2), 2) := by decide +kernel
theorem dX4_learned_24 : decode cX4_learned 24 = .ok (.ireturn, 1) := by decide +kernel
theorem dX4_learned_25 : decode cX4_learned 25 = .ok (.iload_n 1, 1) := by decide +kernel
theorem dX4_learned_26 : decode cX4_learned 26 = .ok (.istore_n 3, 1) := by decide +kernel
theorem dX4_learned_27 : decode cX4_learned 27 = .ok (.iconst 1, 1) := by decide +kernel
theorem dX4_learned_28 : decode cX4_learned 28 = .ok (.istore 4, 2) := by decide +kernel
theorem dX4_learned_30 : decode cX4_learned 30 = .ok (.iload 4, 2) := by decide +kernel
theorem dX4_learned_32 : decode cX4_learned 32 = .ok (.iload_n 2, 1) := by decide +kernel
theorem dX4_learned_33 : decode cX4_learned 33 = .ok (.if_icmp .ge 18, 3) := by decide +kernel
theorem dX4_learned_36 : decode cX4_learned 36 = .ok (.aload_n 0, 1) := by decide +kernel
theorem dX4_learned_37 : decode cX4_learned 37 = .ok (.getfield 10, 3) := by decide +kernel
theorem dX4_learned_40 : decode cX4_learned 40 = .ok (.iload_n 3, 1) := by decide +kernel
theorem dX4_learned_41 : decode cX4_learned 41 = .ok (.invokevirtual 119, 3) := by decide +kernel
theorem dX4_learned_44 : decode cX4_learned 44 = .ok (.istore_n 3, 1) := by decide +kernel
theorem dX4_learned_45 : decode cX4_learned 45 = .ok (.iinc 4 1, 3) := by decide +kernel
theorem dX4_learned_48 : decode cX4_learned 48 = .ok (.goto (-18), 3) := by decide +kernel
theorem dX4_learned_51 : decode cX4_learned 51 = .ok (.aload_n 0, 1) := by decide +kernel
theorem dX4_learned_52 : decode cX4_learned 52 = .ok (.getfield 10, 3) := by decide +kernel
theorem dX4_learned_55 : decode cX4_learned 55 = .ok (.iload_n 3, 1) := by decide +kernel
theorem dX4_learned_56 : decode cX4_learned 56 = .ok (.invokevirtual 119, 3) := by decide +kernel
theorem dX4_learned_59 : decode cX4_learned 59 = .ok (.iload_n 3, 1) := by decide +kernel
theorem dX4_learned_60 : decode cX4_learned 60 = .ok (.iconst (-1), 1) := by decide +kernel
theorem dX4_learned_61 : decode cX4_learned 61 = .ok (.ixor, 1) := by decide +kernel
theorem dX4_learned_62 : decode cX4_learned 62 = .ok (.iand, 1) := by decide +kernel
theorem dX4_learned_63 : decode cX4_learned 63 = .ok (.ireturn, 1) := by decide +kernel
set_option maxRecDepth 20000 in
theorem ggX4_know_X3_hasAll : GoodIn wsX4_know wsX3_hasAll := goodIn_r _ [5, 6, 7, 8, 3, 9, 10, 19, 20, 21, 22, 23] (by decide +kernel) (by decide +kernel)
set_option maxRecDepth 20000 in
theorem gX4_know_X3_hasAll_n109 : GoodIn wsX4_know (wsX3_hasAll) := ggX4_know_X3_hasAll
theorem dX4_know_0 : decode cX4_know 0 = .ok (.aload_n 0, 1) := by decide +kernel
theorem dX4_know_1 : decode cX4_know 1 = .ok (.getfield 10, 3) := by decide +kernel
theorem dX4_know_4 : decode cX4_know 4 = .ok (.iload_n 1, 1) := by decide +kernel
theorem dX4_know_5 : decode cX4_know 5 = .ok (.invokevirtual 109, 3) := by decide +kernel
theorem dX4_know_8 : decode cX4_know 8 = .ok (.ifCond .ne 6, 3) := by decide +kernel
theorem dX4_know_11 : decode cX4_know 11 = .ok (.bipush (-2), 2) := by decide +kernel
theorem dX4_know_13 : decode cX4_know 13 = .ok (.ireturn, 1) := by decide +kernel
theorem dX4_know_14 : decode cX4_know 14 = .ok (.aload_n 0, 1) := by decide +kernel
theorem dX4_know_15 : decode cX4_know 15 = .ok (.getfield 10, 3) := by decide +kernel
theorem dX4_know_18 : decode cX4_know 18 = .ok (.getfield 122, 3) := by decide +kernel
theorem dX4_know_21 : decode cX4_know 21 = .ok (.istore_n 2, 1) := by decide +kernel
theorem dX4_know_22 : decode cX4_know 22 = .ok (.aload_n 0, 1) := by decide +kernel
theorem dX4_know_23 : decode cX4_know 23 = .ok (.getfield 10, 3) := by decide +kernel
theorem dX4_know_26 : decode cX4_know 26 = .ok (.iload_n 1, 1) := by decide +kernel
theorem dX4_know_27 : decode cX4_know 27 = .ok (.putfield 122, 3) := by decide +kernel
theorem dX4_know_30 : decode cX4_know 30 = .ok (.iload_n 2, 1) := by decide +kernel
theorem dX4_know_31 : decode cX4_know 31 = .ok (.ireturn, 1) := by decide +kernel
set_option maxRecDepth 20000 in
theorem ggX4_plan_X4_currentTellings : GoodIn wsX4_plan wsX4_currentTellings := goodIn_r _ [6, 7, 8, 1, 9, 10, 11, 5, 12, 13, 14, 15, 16, 17, 18, 19, 20, 21, 22, 23, 24, 25, 26, 27, 28, 29, 30, 31, 32, 33, 34, 35, 36, 37, 38, 39, 40, 41, 42, 43, 44, 45, 46, 47, 48, 49, 50, 51, 52, 53, 54, 55, 77, 78, 79, 80, 81, 82, 83, 84, 85, 86, 87, 88, 89, 90, 91, 92, 93, 94, 95] (by decide +kernel) (by decide +kernel)
set_option maxRecDepth 20000 in
theorem gX4_plan_X4_currentTellings : GoodIn wsX4_plan (wsV RX4 125 RX4 yX4_currentTellings wsX4_currentTellings) := goodIn_app (goodIn_of _ (by decide +kernel)) ggX4_plan_X4_currentTellings
set_option maxRecDepth 20000 in
theorem ggX4_plan_X1_cheapest : GoodIn wsX4_plan wsX1_cheapest := goodIn_r _ [58, 26, 25, 59, 28, 60, 61, 31, 62, 32, 33, 34, 35, 36, 37, 38, 43, 44, 45, 22, 46, 47, 53, 54, 55, 93, 94, 95, 85, 86, 87, 88, 89] (by decide +kernel) (by decide +kernel)
set_option maxRecDepth 20000 in
theorem gX4_plan_X1_cheapest_n129 : GoodIn wsX4_plan (wsX1_cheapest) := ggX4_plan_X1_cheapest
set_option maxRecDepth 20000 in
theorem ggX4_plan_X3_costOf : GoodIn wsX4_plan wsX3_costOf := goodIn_r _ [61, 31, 62, 85, 86, 87, 88, 89] (by decide +kernel) (by decide +kernel)
set_option maxRecDepth 20000 in
theorem gX4_plan_X3_costOf_n133 : GoodIn wsX4_plan (wsX3_costOf) := ggX4_plan_X3_costOf
set_option maxRecDepth 20000 in
theorem ggX4_plan_J6_bitCount_0f7a4 : GoodIn wsX4_plan wsJ6_bitCount_0f7a4 := goodIn_r _ [35, 36, 37, 38] (by decide +kernel) (by decide +kernel)
set_option maxRecDepth 20000 in
theorem gX4_plan_J6_bitCount_0f7a4 : GoodIn wsX4_plan (va_wsS RX4 95 yJ6_bitCount_0f7a4 wsJ6_bitCount_0f7a4) := goodIn_app (goodIn_of _ (by decide +kernel)) ggX4_plan_J6_bitCount_0f7a4
set_option maxRecDepth 20000 in
theorem ggX4_plan_X3_all : GoodIn wsX4_plan wsX3_all := goodIn_r _ [30, 31, 85, 86, 87, 88, 89] (by decide +kernel) (by decide +kernel)
set_option maxRecDepth 20000 in
theorem gX4_plan_X3_all_n136 : GoodIn wsX4_plan (wsX3_all) := ggX4_plan_X3_all
set_option maxRecDepth 20000 in
theorem ggX4_plan_X3_daysTill : GoodIn wsX4_plan wsX3_daysTill := goodIn_r _ [66, 31, 67, 68, 69, 28, 70, 71, 72, 73, 74, 75, 76, 85, 86, 87, 88, 89] (by decide +kernel) (by decide +kernel)
set_option maxRecDepth 20000 in
theorem gX4_plan_X3_daysTill_n115 : GoodIn wsX4_plan (wsX3_daysTill) := ggX4_plan_X3_daysTill
theorem dX4_plan_0 : decode cX4_plan 0 = .ok (.iload_n 1, 1) := by decide +kernel
theorem dX4_plan_1 : decode cX4_plan 1 = .ok (.ifCond .lt 8, 3) := by decide +kernel
theorem dX4_plan_4 : decode cX4_plan 4 = .ok (.iload_n 1, 1) := by decide +kernel
theorem dX4_plan_5 : decode cX4_plan 5 = .ok (.iconst 3, 1) := by decide +kernel
theorem dX4_plan_6 : decode cX4_plan 6 = .ok (.if_icmp .le 6, 3) := by decide +kernel
theorem dX4_plan_9 : decode cX4_plan 9 = .ok (.bipush (-2), 2) := by decide +kernel
theorem dX4_plan_11 : decode cX4_plan 11 = .ok (.ireturn, 1) := by decide +kernel
theorem dX4_plan_12 : decode cX4_plan 12 = .ok (.aload_n 0, 1) := by decide +kernel
theorem dX4_plan_13 : decode cX4_plan 13 = .ok (.invokevirtual 125, 3) := by decide +kernel
theorem dX4_plan_16 : decode cX4_plan 16 = .ok (.aload_n 0, 1) := by decide +kernel
theorem dX4_plan_17 : decode cX4_plan 17 = .ok (.getfield 10, 3) := by decide +kernel
theorem dX4_plan_20 : decode cX4_plan 20 = .ok (.aload_n 0, 1) := by decide +kernel
theorem dX4_plan_21 : decode cX4_plan 21 = .ok (.getfield 10, 3) := by decide +kernel
theorem dX4_plan_24 : decode cX4_plan 24 = .ok (.getfield 122, 3) := by decide +kernel
theorem dX4_plan_27 : decode cX4_plan 27 = .ok (.invokevirtual 129, 3) := by decide +kernel
theorem dX4_plan_30 : decode cX4_plan 30 = .ok (.istore_n 2, 1) := by decide +kernel
theorem dX4_plan_31 : decode cX4_plan 31 = .ok (.iload_n 1, 1) := by decide +kernel
theorem dX4_plan_32 : decode cX4_plan 32 = .ok (.tableswitch 44 0 2 #[28, 30, 39], 28) := by decide +kernel
theorem dX4_plan_60 : decode cX4_plan 60 = .ok (.iload_n 2, 1) := by decide +kernel
theorem dX4_plan_61 : decode cX4_plan 61 = .ok (.ireturn, 1) := by decide +kernel
theorem dX4_plan_62 : decode cX4_plan 62 = .ok (.aload_n 0, 1) := by decide +kernel
theorem dX4_plan_63 : decode cX4_plan 63 = .ok (.getfield 10, 3) := by decide +kernel
theorem dX4_plan_66 : decode cX4_plan 66 = .ok (.iload_n 2, 1) := by decide +kernel
theorem dX4_plan_67 : decode cX4_plan 67 = .ok (.invokevirtual 133, 3) := by decide +kernel
theorem dX4_plan_70 : decode cX4_plan 70 = .ok (.ireturn, 1) := by decide +kernel
theorem dX4_plan_71 : decode cX4_plan 71 = .ok (.iload_n 2, 1) := by decide +kernel
theorem dX4_plan_72 : decode cX4_plan 72 = .ok (.invokestatic 95, 3) := by decide +kernel
theorem dX4_plan_75 : decode cX4_plan 75 = .ok (.ireturn, 1) := by decide +kernel
theorem dX4_plan_76 : decode cX4_plan 76 = .ok (.aload_n 0, 1) := by decide +kernel
theorem dX4_plan_77 : decode cX4_plan 77 = .ok (.getfield 10, 3) := by decide +kernel
theorem dX4_plan_80 : decode cX4_plan 80 = .ok (.aload_n 0, 1) := by decide +kernel
theorem dX4_plan_81 : decode cX4_plan 81 = .ok (.getfield 10, 3) := by decide +kernel
theorem dX4_plan_84 : decode cX4_plan 84 = .ok (.invokevirtual 136, 3) := by decide +kernel
theorem dX4_plan_87 : decode cX4_plan 87 = .ok (.aload_n 0, 1) := by decide +kernel
theorem dX4_plan_88 : decode cX4_plan 88 = .ok (.getfield 10, 3) := by decide +kernel
theorem dX4_plan_91 : decode cX4_plan 91 = .ok (.getfield 122, 3) := by decide +kernel
theorem dX4_plan_94 : decode cX4_plan 94 = .ok (.iload_n 2, 1) := by decide +kernel
theorem dX4_plan_95 : decode cX4_plan 95 = .ok (.ior, 1) := by decide +kernel
theorem dX4_plan_96 : decode cX4_plan 96 = .ok (.invokevirtual 115, 3) := by decide +kernel
theorem dX4_plan_99 : decode cX4_plan 99 = .ok (.ireturn, 1) := by decide +kernel
set_option maxRecDepth 20000 in
theorem ggX4_saves_X3_has : GoodIn wsX4_saves wsX3_has := goodIn_r _ [5, 6, 74, 75, 76, 77, 78] (by decide +kernel) (by decide +kernel)
set_option maxRecDepth 20000 in
theorem gX4_saves_X3_has_n100 : GoodIn wsX4_saves (wsX3_has) := ggX4_saves_X3_has
set_option maxRecDepth 20000 in
theorem ggX4_saves_X4_currentTellings : GoodIn wsX4_saves wsX4_currentTellings := goodIn_r _ [11, 12, 13, 1, 14, 15, 16, 10, 17, 18, 19, 20, 21, 22, 23, 24, 25, 26, 27, 28, 29, 30, 31, 32, 3, 33, 34, 6, 35, 36, 37, 38, 39, 40, 41, 42, 43, 44, 45, 46, 47, 48, 49, 50, 51, 52, 53, 54, 55, 56, 57, 58, 66, 67, 68, 69, 70, 71, 72, 73, 74, 75, 76, 77, 78, 79, 80, 81, 82, 83, 84] (by decide +kernel) (by decide +kernel)
set_option maxRecDepth 20000 in
theorem gX4_saves_X4_currentTellings : GoodIn wsX4_saves (wsV RX4 125 RX4 yX4_currentTellings wsX4_currentTellings) := goodIn_app (goodIn_of _ (by decide +kernel)) ggX4_saves_X4_currentTellings
set_option maxRecDepth 20000 in
theorem ggX4_saves_X1_cheapest : GoodIn wsX4_saves wsX1_cheapest := goodIn_r _ [61, 31, 30, 62, 3, 63, 64, 6, 65, 35, 36, 37, 38, 39, 40, 41, 46, 47, 48, 27, 49, 50, 56, 57, 58, 82, 83, 84, 74, 75, 76, 77, 78] (by decide +kernel) (by decide +kernel)
set_option maxRecDepth 20000 in
theorem gX4_saves_X1_cheapest_n129 : GoodIn wsX4_saves (wsX1_cheapest) := ggX4_saves_X1_cheapest
set_option maxRecDepth 20000 in
theorem ggX4_saves_X3_costOf : GoodIn wsX4_saves wsX3_costOf := goodIn_r _ [64, 6, 65, 74, 75, 76, 77, 78] (by decide +kernel) (by decide +kernel)
set_option maxRecDepth 20000 in
theorem gX4_saves_X3_costOf_n133 : GoodIn wsX4_saves (wsX3_costOf) := ggX4_saves_X3_costOf
theorem dX4_saves_0 : decode cX4_saves 0 = .ok (.aload_n 0, 1) := by decide +kernel
theorem dX4_saves_1 : decode cX4_saves 1 = .ok (.getfield 10, 3) := by decide +kernel
theorem dX4_saves_4 : decode cX4_saves 4 = .ok (.iload_n 1, 1) := by decide +kernel
theorem dX4_saves_5 : decode cX4_saves 5 = .ok (.invokevirtual 100, 3) := by decide +kernel
theorem dX4_saves_8 : decode cX4_saves 8 = .ok (.ifCond .ne 5, 3) := by decide +kernel
theorem dX4_saves_11 : decode cX4_saves 11 = .ok (.iconst (-1), 1) := by decide +kernel
theorem dX4_saves_12 : decode cX4_saves 12 = .ok (.ireturn, 1) := by decide +kernel
theorem dX4_saves_13 : decode cX4_saves 13 = .ok (.aload_n 0, 1) := by decide +kernel
theorem dX4_saves_14 : decode cX4_saves 14 = .ok (.invokevirtual 125, 3) := by decide +kernel
theorem dX4_saves_17 : decode cX4_saves 17 = .ok (.astore_n 2, 1) := by decide +kernel
theorem dX4_saves_18 : decode cX4_saves 18 = .ok (.aload_n 2, 1) := by decide +kernel
theorem dX4_saves_19 : decode cX4_saves 19 = .ok (.aload_n 0, 1) := by decide +kernel
theorem dX4_saves_20 : decode cX4_saves 20 = .ok (.getfield 10, 3) := by decide +kernel
theorem dX4_saves_23 : decode cX4_saves 23 = .ok (.aload_n 0, 1) := by decide +kernel
theorem dX4_saves_24 : decode cX4_saves 24 = .ok (.getfield 10, 3) := by decide +kernel
theorem dX4_saves_27 : decode cX4_saves 27 = .ok (.getfield 122, 3) := by decide +kernel
theorem dX4_saves_30 : decode cX4_saves 30 = .ok (.invokevirtual 129, 3) := by decide +kernel
theorem dX4_saves_33 : decode cX4_saves 33 = .ok (.istore_n 3, 1) := by decide +kernel
theorem dX4_saves_34 : decode cX4_saves 34 = .ok (.aload_n 2, 1) := by decide +kernel
