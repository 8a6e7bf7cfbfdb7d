theorem dX0_init_0 : decode cX0_init 0 = .ok (.aload_n 0, 1) := by decide +kernel
theorem dX0_init_1 : decode cX0_init 1 = .ok (.invokespecial 3, 3) := by decide +kernel
theorem dX0_init_4 : decode cX0_init 4 = .ok (.aload_n 0, 1) := by decide +kernel
theorem dX0_init_5 : decode cX0_init 5 = .ok (.iconst 0, 1) := by decide +kernel
theorem dX0_init_6 : decode cX0_init 6 = .ok (.putfield 9, 3) := by decide +kernel
theorem dX0_init_9 : decode cX0_init 9 = .ok (.aload_n 0, 1) := by decide +kernel
theorem dX0_init_10 : decode cX0_init 10 = .ok (.bipush 14, 2) := by decide +kernel
theorem dX0_init_12 : decode cX0_init 12 = .ok (.newarray .int, 2) := by decide +kernel
theorem dX0_init_14 : decode cX0_init 14 = .ok (.putfield 15, 3) := by decide +kernel
theorem dX0_init_17 : decode cX0_init 17 = .ok (.aload_n 0, 1) := by decide +kernel
theorem dX0_init_18 : decode cX0_init 18 = .ok (.iconst 0, 1) := by decide +kernel
theorem dX0_init_19 : decode cX0_init 19 = .ok (.putfield 19, 3) := by decide +kernel
theorem dX0_init_22 : decode cX0_init 22 = .ok (.return_, 1) := by decide +kernel
theorem dX0_trace_0 : decode cX0_trace 0 = .ok (.aload_n 0, 1) := by decide +kernel
theorem dX0_trace_1 : decode cX0_trace 1 = .ok (.aload_n 1, 1) := by decide +kernel
theorem dX0_trace_2 : decode cX0_trace 2 = .ok (.getfield 22, 3) := by decide +kernel
theorem dX0_trace_5 : decode cX0_trace 5 = .ok (.putfield 9, 3) := by decide +kernel
theorem dX0_trace_8 : decode cX0_trace 8 = .ok (.iconst 0, 1) := by decide +kernel
theorem dX0_trace_9 : decode cX0_trace 9 = .ok (.istore_n 2, 1) := by decide +kernel
theorem dX0_trace_10 : decode cX0_trace 10 = .ok (.iload_n 2, 1) := by decide +kernel
theorem dX0_trace_11 : decode cX0_trace 11 = .ok (.aload_n 0, 1) := by decide +kernel
theorem dX0_trace_12 : decode cX0_trace 12 = .ok (.getfield 9, 3) := by decide +kernel
theorem dX0_trace_15 : decode cX0_trace 15 = .ok (.if_icmp .ge 21, 3) := by decide +kernel
theorem dX0_trace_18 : decode cX0_trace 18 = .ok (.aload_n 0, 1) := by decide +kernel
theorem dX0_trace_19 : decode cX0_trace 19 = .ok (.getfield 15, 3) := by decide +kernel
theorem dX0_trace_22 : decode cX0_trace 22 = .ok (.iload_n 2, 1) := by decide +kernel
theorem dX0_trace_23 : decode cX0_trace 23 = .ok (.aload_n 1, 1) := by decide +kernel
theorem dX0_trace_24 : decode cX0_trace 24 = .ok (.getfield 25, 3) := by decide +kernel
theorem dX0_trace_27 : decode cX0_trace 27 = .ok (.iload_n 2, 1) := by decide +kernel
theorem dX0_trace_28 : decode cX0_trace 28 = .ok (.iaload, 1) := by decide +kernel
theorem dX0_trace_29 : decode cX0_trace 29 = .ok (.iastore, 1) := by decide +kernel
theorem dX0_trace_30 : decode cX0_trace 30 = .ok (.iinc 2 1, 3) := by decide +kernel
theorem dX0_trace_33 : decode cX0_trace 33 = .ok (.goto (-23), 3) := by decide +kernel
theorem dX0_trace_36 : decode cX0_trace 36 = .ok (.iconst 0, 1) := by decide +kernel
theorem dX0_trace_37 : decode cX0_trace 37 = .ok (.istore_n 2, 1) := by decide +kernel
theorem dX0_trace_38 : decode cX0_trace 38 = .ok (.iload_n 2, 1) := by decide +kernel
theorem dX0_trace_39 : decode cX0_trace 39 = .ok (.aload_n 0, 1) := by decide +kernel
theorem dX0_trace_40 : decode cX0_trace 40 = .ok (.getfield 9, 3) := by decide +kernel
theorem dX0_trace_43 : decode cX0_trace 43 = .ok (.if_icmp .ge 53, 3) := by decide +kernel
theorem dX0_trace_46 : decode cX0_trace 46 = .ok (.iconst 0, 1) := by decide +kernel
theorem dX0_trace_47 : decode cX0_trace 47 = .ok (.istore_n 3, 1) := by decide +kernel
theorem dX0_trace_48 : decode cX0_trace 48 = .ok (.iload_n 3, 1) := by decide +kernel
theorem dX0_trace_49 : decode cX0_trace 49 = .ok (.aload_n 0, 1) := by decide +kernel
theorem dX0_trace_50 : decode cX0_trace 50 = .ok (.getfield 9, 3) := by decide +kernel
theorem dX0_trace_53 : decode cX0_trace 53 = .ok (.if_icmp .ge 37, 3) := by decide +kernel
theorem dX0_trace_56 : decode cX0_trace 56 = .ok (.aload_n 0, 1) := by decide +kernel
theorem dX0_trace_57 : decode cX0_trace 57 = .ok (.getfield 15, 3) := by decide +kernel
theorem dX0_trace_60 : decode cX0_trace 60 = .ok (.iload_n 3, 1) := by decide +kernel
theorem dX0_trace_61 : decode cX0_trace 61 = .ok (.iaload, 1) := by decide +kernel
theorem dX0_trace_62 : decode cX0_trace 62 = .ok (.iload_n 2, 1) := by decide +kernel
theorem dX0_trace_63 : decode cX0_trace 63 = .ok (.ishr, 1) := by decide +kernel
theorem dX0_trace_64 : decode cX0_trace 64 = .ok (.iconst 1, 1) := by decide +kernel
theorem dX0_trace_65 : decode cX0_trace 65 = .ok (.iand, 1) := by decide +kernel
theorem dX0_trace_66 : decode cX0_trace 66 = .ok (.ifCond .eq 18, 3) := by decide +kernel
theorem dX0_trace_69 : decode cX0_trace 69 = .ok (.aload_n 0, 1) := by decide +kernel
theorem dX0_trace_70 : decode cX0_trace 70 = .ok (.getfield 15, 3) := by decide +kernel
theorem dX0_trace_73 : decode cX0_trace 73 = .ok (.iload_n 3, 1) := by decide +kernel
theorem dX0_trace_74 : decode cX0_trace 74 = .ok (.dup2, 1) := by decide +kernel
theorem dX0_trace_75 : decode cX0_trace 75 = .ok (.iaload, 1) := by decide +kernel
theorem dX0_trace_76 : decode cX0_trace 76 = .ok (.aload_n 0, 1) := by decide +kernel
theorem dX0_trace_77 : decode cX0_trace 77 = .ok (.getfield 15, 3) := by decide +kernel
theorem dX0_trace_80 : decode cX0_trace 80 = .ok (.iload_n 2, 1) := by decide +kernel
theorem dX0_trace_81 : decode cX0_trace 81 = .ok (.iaload, 1) := by decide +kernel
theorem dX0_trace_82 : decode cX0_trace 82 = .ok (.ior, 1) := by decide +kernel
theorem dX0_trace_83 : decode cX0_trace 83 = .ok (.iastore, 1) := by decide +kernel
theorem dX0_trace_84 : decode cX0_trace 84 = .ok (.iinc 3 1, 3) := by decide +kernel
theorem dX0_trace_87 : decode cX0_trace 87 = .ok (.goto (-39), 3) := by decide +kernel
theorem dX0_trace_90 : decode cX0_trace 90 = .ok (.iinc 2 1, 3) := by decide +kernel
theorem dX0_trace_93 : decode cX0_trace 93 = .ok (.goto (-55), 3) := by decide +kernel
theorem dX0_trace_96 : decode cX0_trace 96 = .ok (.aload_n 0, 1) := by decide +kernel
theorem dX0_trace_97 : decode cX0_trace 97 = .ok (.iconst 0, 1) := by decide +kernel
theorem dX0_trace_98 : decode cX0_trace 98 = .ok (.putfield 19, 3) := by decide +kernel
theorem dX0_trace_101 : decode cX0_trace 101 = .ok (.iconst 0, 1) := by decide +kernel
theorem dX0_trace_102 : decode cX0_trace 102 = .ok (.istore_n 2, 1) := by decide +kernel
theorem dX0_trace_103 : decode cX0_trace 103 = .ok (.iload_n 2, 1) := by decide +kernel
theorem dX0_trace_104 : decode cX0_trace 104 = .ok (.aload_n 0, 1) := by decide +kernel
theorem dX0_trace_105 : decode cX0_trace 105 = .ok (.getfield 9, 3) := by decide +kernel
theorem dX0_trace_108 : decode cX0_trace 108 = .ok (.if_icmp .ge 28, 3) := by decide +kernel
theorem dX0_trace_111 : decode cX0_trace 111 = .ok (.aload_n 0, 1) := by decide +kernel
theorem dX0_trace_112 : decode cX0_trace 112 = .ok (.dup, 1) := by decide +kernel
theorem dX0_trace_113 : decode cX0_trace 113 = .ok (.getfield 19, 3) := by decide +kernel
theorem dX0_trace_116 : decode cX0_trace 116 = .ok (.aload_n 0, 1) := by decide +kernel
theorem dX0_trace_117 : decode cX0_trace 117 = .ok (.getfield 15, 3) := by decide +kernel
theorem dX0_trace_120 : decode cX0_trace 120 = .ok (.iload_n 2, 1) := by decide +kernel
theorem dX0_trace_121 : decode cX0_trace 121 = .ok (.iaload, 1) := by decide +kernel
theorem dX0_trace_122 : decode cX0_trace 122 = .ok (.iconst 1, 1) := by decide +kernel
theorem dX0_trace_123 : decode cX0_trace 123 = .ok (.iload_n 2, 1) := by decide +kernel
theorem dX0_trace_124 : decode cX0_trace 124 = .ok (.ishl, 1) := by decide +kernel
theorem dX0_trace_125 : decode cX0_trace 125 = .ok (.iand, 1) := by decide +kernel
theorem dX0_trace_126 : decode cX0_trace 126 = .ok (.ior, 1) := by decide +kernel
theorem dX0_trace_127 : decode cX0_trace 127 = .ok (.putfield 19, 3) := by decide +kernel
theorem dX0_trace_130 : decode cX0_trace 130 = .ok (.iinc 2 1, 3) := by decide +kernel
theorem dX0_trace_133 : decode cX0_trace 133 = .ok (.goto (-30), 3) := by decide +kernel
theorem dX0_trace_136 : decode cX0_trace 136 = .ok (.return_, 1) := by decide +kernel
theorem dX0_ringOf_0 : decode cX0_ringOf 0 = .ok (.iconst 0, 1) := by decide +kernel
theorem dX0_ringOf_1 : decode cX0_ringOf 1 = .ok (.istore_n 2, 1) := by decide +kernel
theorem dX0_ringOf_2 : decode cX0_ringOf 2 = .ok (.iconst 0, 1) := by decide +kernel
theorem dX0_ringOf_3 : decode cX0_ringOf 3 = .ok (.istore_n 3, 1) := by decide +kernel
theorem dX0_ringOf_4 : decode cX0_ringOf 4 = .ok (.iload_n 3, 1) := by decide +kernel
theorem dX0_ringOf_5 : decode cX0_ringOf 5 = .ok (.aload_n 0, 1) := by decide +kernel
theorem dX0_ringOf_6 : decode cX0_ringOf 6 = .ok (.getfield 9, 3) := by decide +kernel
theorem dX0_ringOf_9 : decode cX0_ringOf 9 = .ok (.if_icmp .ge 41, 3) := by decide +kernel
theorem dX0_ringOf_12 : decode cX0_ringOf 12 = .ok (.aload_n 0, 1) := by decide +kernel
theorem dX0_ringOf_13 : decode cX0_ringOf 13 = .ok (.getfield 15, 3) := by decide +kernel
theorem dX0_ringOf_16 : decode cX0_ringOf 16 = .ok (.iload_n 1, 1) := by decide +kernel
theorem dX0_ringOf_17 : decode cX0_ringOf 17 = .ok (.iaload, 1) := by decide +kernel
theorem dX0_ringOf_18 : decode cX0_ringOf 18 = .ok (.iload_n 3, 1) := by decide +kernel
theorem dX0_ringOf_19 : decode cX0_ringOf 19 = .ok (.ishr, 1) := by decide +kernel
theorem dX0_ringOf_20 : decode cX0_ringOf 20 = .ok (.iconst 1, 1) := by decide +kernel
theorem dX0_ringOf_21 : decode cX0_ringOf 21 = .ok (.iand, 1) := by decide +kernel
theorem dX0_ringOf_22 : decode cX0_ringOf 22 = .ok (.ifCond .eq 22, 3) := by decide +kernel
theorem dX0_ringOf_25 : decode cX0_ringOf 25 = .ok (.aload_n 0, 1) := by decide +kernel
theorem dX0_ringOf_26 : decode cX0_ringOf 26 = .ok (.getfield 15, 3) := by decide +kernel
theorem dX0_ringOf_29 : decode cX0_ringOf 29 = .ok (.iload_n 3, 1) := by decide +kernel
theorem dX0_ringOf_30 : decode cX0_ringOf 30 = .ok (.iaload, 1) := by decide +kernel
theorem dX0_ringOf_31 : decode cX0_ringOf 31 = .ok (.iload_n 1, 1) := by decide +kernel
theorem dX0_ringOf_32 : decode cX0_ringOf 32 = .ok (.ishr, 1) := by decide +kernel
theorem dX0_ringOf_33 : decode cX0_ringOf 33 = .ok (.iconst 1, 1) := by decide +kernel
theorem dX0_ringOf_34 : decode cX0_ringOf 34 = .ok (.iand, 1) := by decide +kernel
theorem dX0_ringOf_35 : decode cX0_ringOf 35 = .ok (.ifCond .eq 9, 3) := by decide +kernel
theorem dX0_ringOf_38 : decode cX0_ringOf 38 = .ok (.iload_n 2, 1) := by decide +kernel
theorem dX0_ringOf_39 : decode cX0_ringOf 39 = .ok (.iconst 1, 1) := by decide +kernel
theorem dX0_ringOf_40 : decode cX0_ringOf 40 = .ok (.iload_n 3, 1) := by decide +kernel
theorem dX0_ringOf_41 : decode cX0_ringOf 41 = .ok (.ishl, 1) := by decide +kernel
theorem dX0_ringOf_42 : decode cX0_ringOf 42 = .ok (.ior, 1) := by decide +kernel
theorem dX0_ringOf_43 : decode cX0_ringOf 43 = .ok (.istore_n 2, 1) := by decide +kernel
theorem dX0_ringOf_44 : decode cX0_ringOf 44 = .ok (.iinc 3 1, 3) := by decide +kernel
theorem dX0_ringOf_47 : decode cX0_ringOf 47 = .ok (.goto (-43), 3) := by decide +kernel
theorem dX0_ringOf_50 : decode cX0_ringOf 50 = .ok (.iload_n 2, 1) := by decide +kernel
theorem dX0_ringOf_51 : decode cX0_ringOf 51 = .ok (.ireturn, 1) := by decide +kernel
set_option maxRecDepth 20000 in
theorem ggX0_howMany_X0_ringOf : GoodIn wsX0_howMany wsX0_ringOf := goodIn_r _ [7, 2, 8, 9, 10, 11] (by decide +kernel) (by decide +kernel)
set_option maxRecDepth 20000 in
theorem gX0_howMany_X0_ringOf : GoodIn wsX0_howMany (wsV RX0 28 RX0 yX0_ringOf wsX0_ringOf) := goodIn_app (goodIn_of _ (by decide +kernel)) ggX0_howMany_X0_ringOf
theorem dX0_howMany_0 : decode cX0_howMany 0 = .ok (.iconst 0, 1) := by decide +kernel
theorem dX0_howMany_1 : decode cX0_howMany 1 = .ok (.istore_n 1, 1) := by decide +kernel
theorem dX0_howMany_2 : decode cX0_howMany 2 = .ok (.aload_n 0, 1) := by decide +kernel
theorem dX0_howMany_3 : decode cX0_howMany 3 = .ok (.getfield 19, 3) := by decide +kernel
theorem dX0_howMany_6 : decode cX0_howMany 6 = .ok (.istore_n 2, 1) := by decide +kernel
theorem dX0_howMany_7 : decode cX0_howMany 7 = .ok (.iconst 0, 1) := by decide +kernel
theorem dX0_howMany_8 : decode cX0_howMany 8 = .ok (.istore_n 3, 1) := by decide +kernel
theorem dX0_howMany_9 : decode cX0_howMany 9 = .ok (.iload_n 3, 1) := by decide +kernel
theorem dX0_howMany_10 : decode cX0_howMany 10 = .ok (.aload_n 0, 1) := by decide +kernel
theorem dX0_howMany_11 : decode cX0_howMany 11 = .ok (.getfield 9, 3) := by decide +kernel
theorem dX0_howMany_14 : decode cX0_howMany 14 = .ok (.if_icmp .ge 30, 3) := by decide +kernel
theorem dX0_howMany_17 : decode cX0_howMany 17 = .ok (.iload_n 2, 1) := by decide +kernel
theorem dX0_howMany_18 : decode cX0_howMany 18 = .ok (.iload_n 3, 1) := by decide +kernel
theorem dX0_howMany_19 : decode cX0_howMany 19 = .ok (.ishr, 1) := by decide +kernel
theorem dX0_howMany_20 : decode cX0_howMany 20 = .ok (.iconst 1, 1) := by decide +kernel
theorem dX0_howMany_21 : decode cX0_howMany 21 = .ok (.iand, 1) := by decide +kernel
theorem dX0_howMany_22 : decode cX0_howMany 22 = .ok (.ifCond .eq 16, 3) := by decide +kernel
theorem dX0_howMany_25 : decode cX0_howMany 25 = .ok (.iload_n 2, 1) := by decide +kernel
theorem dX0_howMany_26 : decode cX0_howMany 26 = .ok (.aload_n 0, 1) := by decide +kernel
theorem dX0_howMany_27 : decode cX0_howMany 27 = .ok (.iload_n 3, 1) := by decide +kernel
theorem dX0_howMany_28 : decode cX0_howMany 28 = .ok (.invokevirtual 28, 3) := by decide +kernel
theorem dX0_howMany_31 : decode cX0_howMany 31 = .ok (.iconst (-1), 1) := by decide +kernel
theorem dX0_howMany_32 : decode cX0_howMany 32 = .ok (.ixor, 1) := by decide +kernel
theorem dX0_howMany_33 : decode cX0_howMany 33 = .ok (.iand, 1) := by decide +kernel
theorem dX0_howMany_34 : decode cX0_howMany 34 = .ok (.istore_n 2, 1) := by decide +kernel
theorem dX0_howMany_35 : decode cX0_howMany 35 = .ok (.iinc 1 1, 3) := by decide +kernel
theorem dX0_howMany_38 : decode cX0_howMany 38 = .ok (.iinc 3 1, 3) := by decide +kernel
theorem dX0_howMany_41 : decode cX0_howMany 41 = .ok (.goto (-32), 3) := by decide +kernel
theorem dX0_howMany_44 : decode cX0_howMany 44 = .ok (.iload_n 1, 1) := by decide +kernel
theorem dX0_howMany_45 : decode cX0_howMany 45 = .ok (.ireturn, 1) := by decide +kernel
set_option maxRecDepth 20000 in
theorem ggX0_numbered_X0_ringOf : GoodIn wsX0_numbered wsX0_ringOf := goodIn_r _ [7, 2, 8, 9, 10, 11] (by decide +kernel) (by decide +kernel)
set_option maxRecDepth 20000 in
theorem gX0_numbered_X0_ringOf : GoodIn wsX0_numbered (wsV RX0 28 RX0 yX0_ringOf wsX0_ringOf) := goodIn_app (goodIn_of _ (by decide +kernel)) ggX0_numbered_X0_ringOf
theorem dX0_numbered_0 : decode cX0_numbered 0 = .ok (.iconst 0, 1) := by decide +kernel
theorem dX0_numbered_1 : decode cX0_numbered 1 = .ok (.istore_n 2, 1) := by decide +kernel
theorem dX0_numbered_2 : decode cX0_numbered 2 = .ok (.aload_n 0, 1) := by decide +kernel
theorem dX0_numbered_3 : decode cX0_numbered 3 = .ok (.getfield 19, 3) := by decide +kernel
theorem dX0_numbered_6 : decode cX0_numbered 6 = .ok (.istore_n 3, 1) := by decide +kernel
theorem dX0_numbered_7 : decode cX0_numbered 7 = .ok (.iconst 0, 1) := by decide +kernel
theorem dX0_numbered_8 : decode cX0_numbered 8 = .ok (.istore 4, 2) := by decide +kernel
theorem dX0_numbered_10 : decode cX0_numbered 10 = .ok (.iload 4, 2) := by decide +kernel
theorem dX0_numbered_12 : decode cX0_numbered 12 = .ok (.aload_n 0, 1) := by decide +kernel
theorem dX0_numbered_13 : decode cX0_numbered 13 = .ok (.getfield 9, 3) := by decide +kernel
theorem dX0_numbered_16 : decode cX0_numbered 16 = .ok (.if_icmp .ge 44, 3) := by decide +kernel
theorem dX0_numbered_19 : decode cX0_numbered 19 = .ok (.iload_n 3, 1) := by decide +kernel
theorem dX0_numbered_20 : decode cX0_numbered 20 = .ok (.iload 4, 2) := by decide +kernel
theorem dX0_numbered_22 : decode cX0_numbered 22 = .ok (.ishr, 1) := by decide +kernel
theorem dX0_numbered_23 : decode cX0_numbered 23 = .ok (.iconst 1, 1) := by decide +kernel
theorem dX0_numbered_24 : decode cX0_numbered 24 = .ok (.iand, 1) := by decide +kernel
theorem dX0_numbered_25 : decode cX0_numbered 25 = .ok (.ifCond .eq 29, 3) := by decide +kernel
theorem dX0_numbered_28 : decode cX0_numbered 28 = .ok (.aload_n 0, 1) := by decide +kernel
theorem dX0_numbered_29 : decode cX0_numbered 29 = .ok (.iload 4, 2) := by decide +kernel
theorem dX0_numbered_31 : decode cX0_numbered 31 = .ok (.invokevirtual 28, 3) := by decide +kernel
theorem dX0_numbered_34 : decode cX0_numbered 34 = .ok (.istore 5, 2) := by decide +kernel
theorem dX0_numbered_36 : decode cX0_numbered 36 = .ok (.iload_n 2, 1) := by decide +kernel
theorem dX0_numbered_37 : decode cX0_numbered 37 = .ok (.iload_n 1, 1) := by decide +kernel
theorem dX0_numbered_38 : decode cX0_numbered 38 = .ok (.if_icmp .ne 6, 3) := by decide +kernel
theorem dX0_numbered_41 : decode cX0_numbered 41 = .ok (.iload 5, 2) := by decide +kernel
theorem dX0_numbered_43 : decode cX0_numbered 43 = .ok (.ireturn, 1) := by decide +kernel
theorem dX0_numbered_44 : decode cX0_numbered 44 = .ok (.iload_n 3, 1) := by decide +kernel
theorem dX0_numbered_45 : decode cX0_numbered 45 = .ok (.iload 5, 2) := by decide +kernel
theorem dX0_numbered_47 : decode cX0_numbered 47 = .ok (.iconst (-1), 1) := by decide +kernel
theorem dX0_numbered_48 : decode cX0_numbered 48 = .ok (.ixor, 1) := by decide +kernel
theorem dX0_numbered_49 : decode cX0_numbered 49 = .ok (.iand, 1) := by decide +kernel
theorem dX0_numbered_50 : decode cX0_numbered 50 = .ok (.istore_n 3, 1) := by decide +kernel
theorem dX0_numbered_51 : decode cX0_numbered 51 = .ok (.iinc 2 1, 3) := by decide +kernel
theorem dX0_numbered_54 : decode cX0_numbered 54 = .ok (.iinc 4 1, 3) := by decide +kernel
theorem dX0_numbered_57 : decode cX0_numbered 57 = .ok (.goto (-47), 3) := by decide +kernel
theorem dX0_numbered_60 : decode cX0_numbered 60 = .ok (.bipush (-6), 2) := by decide +kernel
theorem dX0_numbered_62 : decode cX0_numbered 62 = .ok (.ireturn, 1) := by decide +kernel
theorem dX0_before_0 : decode cX0_before 0 = .ok (.iconst 0, 1) := by decide +kernel
theorem dX0_before_1 : decode cX0_before 1 = .ok (.istore_n 1, 1) := by decide +kernel
theorem dX0_before_2 : decode cX0_before 2 = .ok (.iconst 0, 1) := by decide +kernel
theorem dX0_before_3 : decode cX0_before 3 = .ok (.istore_n 2, 1) := by decide +kernel
theorem dX0_before_4 : decode cX0_before 4 = .ok (.iload_n 2, 1) := by decide +kernel
theorem dX0_before_5 : decode cX0_before 5 = .ok (.aload_n 0, 1) := by decide +kernel
theorem dX0_before_6 : decode cX0_before 6 = .ok (.getfield 9, 3) := by decide +kernel
theorem dX0_before_9 : decode cX0_before 9 = .ok (.if_icmp .ge 29, 3) := by decide +kernel
theorem dX0_before_12 : decode cX0_before 12 = .ok (.aload_n 0, 1) := by decide +kernel
theorem dX0_before_13 : decode cX0_before 13 = .ok (.getfield 19, 3) := by decide +kernel
theorem dX0_before_16 : decode cX0_before 16 = .ok (.iload_n 2, 1) := by decide +kernel
theorem dX0_before_17 : decode cX0_before 17 = .ok (.ishr, 1) := by decide +kernel
theorem dX0_before_18 : decode cX0_before 18 = .ok (.iconst 1, 1) := by decide +kernel
theorem dX0_before_19 : decode cX0_before 19 = .ok (.iand, 1) := by decide +kernel
theorem dX0_before_20 : decode cX0_before 20 = .ok (.ifCond .eq 12, 3) := by decide +kernel
theorem dX0_before_23 : decode cX0_before 23 = .ok (.iload_n 1, 1) := by decide +kernel
theorem dX0_before_24 : decode cX0_before 24 = .ok (.aload_n 0, 1) := by decide +kernel
theorem dX0_before_25 : decode cX0_before 25 = .ok (.getfield 15, 3) := by decide +kernel
theorem dX0_before_28 : decode cX0_before 28 = .ok (.iload_n 2, 1) := by decide +kernel
theorem dX0_before_29 : decode cX0_before 29 = .ok (.iaload, 1) := by decide +kernel
theorem dX0_before_30 : decode cX0_before 30 = .ok (.ior, 1) := by decide +kernel
theorem dX0_before_31 : decode cX0_before 31 = .ok (.istore_n 1, 1) := by decide +kernel
theorem dX0_before_32 : decode cX0_before 32 = .ok (.iinc 2 1, 3) := by decide +kernel
theorem dX0_before_35 : decode cX0_before 35 = .ok (.goto (-31), 3) := by decide +kernel
theorem dX0_before_38 : decode cX0_before 38 = .ok (.iload_n 1, 1) := by decide +kernel
theorem dX0_before_39 : decode cX0_before 39 = .ok (.aload_n 0, 1) := by decide +kernel
theorem dX0_before_40 : decode cX0_before 40 = .ok (.getfield 19, 3) := by decide +kernel
theorem dX0_before_43 : decode cX0_before 43 = .ok (.iconst (-1), 1) := by decide +kernel
theorem dX0_before_44 : decode cX0_before 44 = .ok (.ixor, 1) := by decide +kernel
theorem dX0_before_45 : decode cX0_before 45 = .ok (.iand, 1) := by decide +kernel
theorem dX0_before_46 : decode cX0_before 46 = .ok (.ireturn, 1) := by decide +kernel
theorem dX0_behind_0 : decode cX0_behind 0 = .ok (.iconst 0, 1) := by decide +kernel
theorem dX0_behind_1 : decode cX0_behind 1 = .ok (.istore_n 1, 1) := by decide +kernel
theorem dX0_behind_2 : decode cX0_behind 2 = .ok (.iconst 0, 1) := by decide +kernel
theorem dX0_behind_3 : decode cX0_behind 3 = .ok (.istore_n 2, 1) := by decide +kernel
theorem dX0_behind_4 : decode cX0_behind 4 = .ok (.iload_n 2, 1) := by decide +kernel
theorem dX0_behind_5 : decode cX0_behind 5 = .ok (.aload_n 0, 1) := by decide +kernel
theorem dX0_behind_6 : decode cX0_behind 6 = .ok (.getfield 9, 3) := by decide +kernel
theorem dX0_behind_9 : decode cX0_behind 9 = .ok (.if_icmp .ge 29, 3) := by decide +kernel
theorem dX0_behind_12 : decode cX0_behind 12 = .ok (.aload_n 0, 1) := by decide +kernel
theorem dX0_behind_13 : decode cX0_behind 13 = .ok (.getfield 15, 3) := by decide +kernel
theorem dX0_behind_16 : decode cX0_behind 16 = .ok (.iload_n 2, 1) := by decide +kernel
theorem dX0_behind_17 : decode cX0_behind 17 = .ok (.iaload, 1) := by decide +kernel
theorem dX0_behind_18 : decode cX0_behind 18 = .ok (.aload_n 0, 1) := by decide +kernel
theorem dX0_behind_19 : decode cX0_behind 19 = .ok (.getfield 19, 3) := by decide +kernel
theorem dX0_behind_22 : decode cX0_behind 22 = .ok (.iand, 1) := by decide +kernel
theorem dX0_behind_23 : decode cX0_behind 23 = .ok (.ifCond .eq 9, 3) := by decide +kernel
theorem dX0_behind_26 : decode cX0_behind 26 = .ok (.iload_n 1, 1) := by decide +kernel
theorem dX0_behind_27 : decode cX0_behind 27 = .ok (.iconst 1, 1) := by decide +kernel
theorem dX0_behind_28 : decode cX0_behind 28 = .ok (.iload_n 2, 1) := by decide +kernel
theorem dX0_behind_29 : decode cX0_behind 29 = .ok (.ishl, 1) := by decide +kernel
theorem dX0_behind_30 : decode cX0_behind 30 = .ok (.ior, 1) := by decide +kernel
theorem dX0_behind_31 : decode cX0_behind 31 = .ok (.istore_n 1, 1) := by decide +kernel
theorem dX0_behind_32 : decode cX0_behind 32 = .ok (.iinc 2 1, 3) := by decide +kernel
theorem dX0_behind_35 : decode cX0_behind 35 = .ok (.goto (-31), 3) := by decide +kernel
theorem dX0_behind_38 : decode cX0_behind 38 = .ok (.iload_n 1, 1) := by decide +kernel
theorem dX0_behind_39 : decode cX0_behind 39 = .ok (.aload_n 0, 1) := by decide +kernel
theorem dX0_behind_40 : decode cX0_behind 40 = .ok (.getfield 19, 3) := by decide +kernel
theorem dX0_behind_43 : decode cX0_behind 43 = .ok (.iconst (-1), 1) := by decide +kernel
theorem dX0_behind_44 : decode cX0_behind 44 = .ok (.ixor, 1) := by decide +kernel
theorem dX0_behind_45 : decode cX0_behind 45 = .ok (.iand, 1) := by decide +kernel
theorem dX0_behind_46 : decode cX0_behind 46 = .ok (.ireturn, 1) := by decide +kernel
theorem dX1_init_0 : decode cX1_init 0 = .ok (.aload_n 0, 1) := by decide +kernel
theorem dX1_init_1 : decode cX1_init 1 = .ok (.invokespecial 3, 3) := by decide +kernel
theorem dX1_init_4 : decode cX1_init 4 = .ok (.aload_n 0, 1) := by decide +kernel
theorem dX1_init_5 : decode cX1_init 5 = .ok (.iconst 0, 1) := by decide +kernel
theorem dX1_init_6 : decode cX1_init 6 = .ok (.putfield 9, 3) := by decide +kernel
theorem dX1_init_9 : decode cX1_init 9 = .ok (.aload_n 0, 1) := by decide +kernel
theorem dX1_init_10 : decode cX1_init 10 = .ok (.iconst 0, 1) := by decide +kernel
theorem dX1_init_11 : decode cX1_init 11 = .ok (.putfield 15, 3) := by decide +kernel
theorem dX1_init_14 : decode cX1_init 14 = .ok (.aload_n 0, 1) := by decide +kernel
theorem dX1_init_15 : decode cX1_init 15 = .ok (.sipush 256, 3) := by decide +kernel
theorem dX1_init_18 : decode cX1_init 18 = .ok (.newarray .long, 2) := by decide +kernel
theorem dX1_init_20 : decode cX1_init 20 = .ok (.putfield 18, 3) := by decide +kernel
theorem dX1_init_23 : decode cX1_init 23 = .ok (.return_, 1) := by decide +kernel
set_option maxRecDepth 20000 in
theorem ggX1_find_X3_all : GoodIn wsX1_find wsX3_all := goodIn_r _ [6, 7, 33, 34, 35, 36, 37] (by decide +kernel) (by decide +kernel)
set_option maxRecDepth 20000 in
theorem gX1_find_X3_all_n22 : GoodIn wsX1_find (wsX3_all) := ggX1_find_X3_all
set_option maxRecDepth 20000 in
theorem ggX1_find_J6_bitCount_0f7a4 : GoodIn wsX1_find wsJ6_bitCount_0f7a4 := goodIn_r _ [11, 12, 13, 14] (by decide +kernel) (by decide +kernel)
set_option maxRecDepth 20000 in
theorem gX1_find_J6_bitCount_0f7a4 : GoodIn wsX1_find (va_wsS RX1 36 yJ6_bitCount_0f7a4 wsJ6_bitCount_0f7a4) := goodIn_app (goodIn_of _ (by decide +kernel)) ggX1_find_J6_bitCount_0f7a4
set_option maxRecDepth 20000 in
theorem ggX1_find_X1_isFreeWithoutOne : GoodIn wsX1_find wsX1_isFreeWithoutOne := goodIn_r _ [19, 20, 21, 22, 18, 23, 24, 33, 34, 35, 36, 37, 38, 39, 40] (by decide +kernel) (by decide +kernel)
set_option maxRecDepth 20000 in
theorem gX1_find_X1_isFreeWithoutOne : GoodIn wsX1_find (wsV RX1 42 RX1 yX1_isFreeWithoutOne wsX1_isFreeWithoutOne) := goodIn_app (goodIn_of _ (by decide +kernel)) ggX1_find_X1_isFreeWithoutOne
set_option maxRecDepth 20000 in
theorem ggX1_find_X1_mark : GoodIn wsX1_find wsX1_mark := goodIn_r _ [28, 24, 29, 38, 39, 40] (by decide +kernel) (by decide +kernel)
set_option maxRecDepth 20000 in
theorem gX1_find_X1_mark : GoodIn wsX1_find (wsV RX1 46 RX1 yX1_mark wsX1_mark) := goodIn_app (goodIn_of _ (by decide +kernel)) ggX1_find_X1_mark
set_option maxRecDepth 20000 in
theorem ggX1_find_X1_nextSubset : GoodIn wsX1_find wsX1_nextSubset := goodIn_r _ [32] (by decide +kernel) (by decide +kernel)
set_option maxRecDepth 20000 in
theorem gX1_find_X1_nextSubset : GoodIn wsX1_find (va_wsS RX1 50 yX1_nextSubset wsX1_nextSubset) := goodIn_app (goodIn_of _ (by decide +kernel)) ggX1_find_X1_nextSubset
theorem dX1_find_0 : decode cX1_find 0 = .ok (.aload_n 0, 1) := by decide +kernel
theorem dX1_find_1 : decode cX1_find 1 = .ok (.aload_n 1, 1) := by decide +kernel
theorem dX1_find_2 : decode cX1_find 2 = .ok (.invokevirtual 22, 3) := by decide +kernel
theorem dX1_find_5 : decode cX1_find 5 = .ok (.aload_n 1, 1) := by decide +kernel
theorem dX1_find_6 : decode cX1_find 6 = .ok (.getfield 28, 3) := by decide +kernel
theorem dX1_find_9 : decode cX1_find 9 = .ok (.iconst (-1), 1) := by decide +kernel
theorem dX1_find_10 : decode cX1_find 10 = .ok (.ixor, 1) := by decide +kernel
theorem dX1_find_11 : decode cX1_find 11 = .ok (.iand, 1) := by decide +kernel
theorem dX1_find_12 : decode cX1_find 12 = .ok (.putfield 9, 3) := by decide +kernel
theorem dX1_find_15 : decode cX1_find 15 = .ok (.aload_n 0, 1) := by decide +kernel
theorem dX1_find_16 : decode cX1_find 16 = .ok (.aload_n 2, 1) := by decide +kernel
theorem dX1_find_17 : decode cX1_find 17 = .ok (.getfield 31, 3) := by decide +kernel
theorem dX1_find_20 : decode cX1_find 20 = .ok (.putfield 15, 3) := by decide +kernel
theorem dX1_find_23 : decode cX1_find 23 = .ok (.iconst 1, 1) := by decide +kernel
theorem dX1_find_24 : decode cX1_find 24 = .ok (.aload_n 0, 1) := by decide +kernel
theorem dX1_find_25 : decode cX1_find 25 = .ok (.getfield 15, 3) := by decide +kernel
theorem dX1_find_28 : decode cX1_find 28 = .ok (.invokestatic 36, 3) := by decide +kernel
theorem dX1_find_31 : decode cX1_find 31 = .ok (.ishl, 1) := by decide +kernel
theorem dX1_find_32 : decode cX1_find 32 = .ok (.istore_n 3, 1) := by decide +kernel
theorem dX1_find_33 : decode cX1_find 33 = .ok (.iconst 0, 1) := by decide +kernel
theorem dX1_find_34 : decode cX1_find 34 = .ok (.istore 4, 2) := by decide +kernel
theorem dX1_find_36 : decode cX1_find 36 = .ok (.iconst 0, 1) := by decide +kernel
theorem dX1_find_37 : decode cX1_find 37 = .ok (.istore 5, 2) := by decide +kernel
theorem dX1_find_39 : decode cX1_find 39 = .ok (.iload 5, 2) := by decide +kernel
theorem dX1_find_41 : decode cX1_find 41 = .ok (.iload_n 3, 1) := by decide +kernel
theorem dX1_find_42 : decode cX1_find 42 = .ok (.if_icmp .ge 46, 3) := by decide +kernel
theorem dX1_find_45 : decode cX1_find 45 = .ok (.aload_n 0, 1) := by decide +kernel
theorem dX1_find_46 : decode cX1_find 46 = .ok (.iload 4, 2) := by decide +kernel
theorem dX1_find_48 : decode cX1_find 48 = .ok (.iload 4, 2) := by decide +kernel
theorem dX1_find_50 : decode cX1_find 50 = .ok (.ifCond .eq 13, 3) := by decide +kernel
theorem dX1_find_53 : decode cX1_find 53 = .ok (.aload_n 0, 1) := by decide +kernel
theorem dX1_find_54 : decode cX1_find 54 = .ok (.aload_n 1, 1) := by decide +kernel
theorem dX1_find_55 : decode cX1_find 55 = .ok (.iload 4, 2) := by decide +kernel
theorem dX1_find_57 : decode cX1_find 57 = .ok (.invokevirtual 42, 3) := by decide +kernel
theorem dX1_find_60 : decode cX1_find 60 = .ok (.ifCond .eq 7, 3) := by decide +kernel
theorem dX1_find_63 : decode cX1_find 63 = .ok (.iconst 1, 1) := by decide +kernel
theorem dX1_find_64 : decode cX1_find 64 = .ok (.goto 4, 3) := by decide +kernel
theorem dX1_find_67 : decode cX1_find 67 = .ok (.iconst 0, 1) := by decide +kernel
theorem dX1_find_68 : decode cX1_find 68 = .ok (.invokevirtual 46, 3) := by decide +kernel
theorem dX1_find_71 : decode cX1_find 71 = .ok (.iload 4, 2) := by decide +kernel
theorem dX1_find_73 : decode cX1_find 73 = .ok (.aload_n 0, 1) := by decide +kernel
theorem dX1_find_74 : decode cX1_find 74 = .ok (.getfield 15, 3) := by decide +kernel
theorem dX1_find_77 : decode cX1_find 77 = .ok (.invokestatic 50, 3) := by decide +kernel
theorem dX1_find_80 : decode cX1_find 80 = .ok (.istore 4, 2) := by decide +kernel
theorem dX1_find_82 : decode cX1_find 82 = .ok (.iinc 5 1, 3) := by decide +kernel
theorem dX1_find_85 : decode cX1_find 85 = .ok (.goto (-46), 3) := by decide +kernel
theorem dX1_find_88 : decode cX1_find 88 = .ok (.return_, 1) := by decide +kernel
set_option maxRecDepth 20000 in
theorem ggX1_isFreeWithoutOne_X1_isFree : GoodIn wsX1_isFreeWithoutOne wsX1_isFree := goodIn_r _ [5, 6, 12, 13, 14] (by decide +kernel) (by decide +kernel)
set_option maxRecDepth 20000 in
theorem gX1_isFreeWithoutOne_X1_isFree : GoodIn wsX1_isFreeWithoutOne (wsV RX1 61 RX1 yX1_isFree wsX1_isFree) := goodIn_app (goodIn_of _ (by decide +kernel)) ggX1_isFreeWithoutOne_X1_isFree
theorem dX1_isFreeWithoutOne_0 : decode cX1_isFreeWithoutOne 0 = .ok (.iconst 0, 1) := by decide +kernel
theorem dX1_isFreeWithoutOne_1 : decode cX1_isFreeWithoutOne 1 = .ok (.istore_n 3, 1) := by decide +kernel
theorem dX1_isFreeWithoutOne_2 : decode cX1_isFreeWithoutOne 2 = .ok (.iload_n 3, 1) := by decide +kernel
theorem dX1_isFreeWithoutOne_3 : decode cX1_isFreeWithoutOne 3 = .ok (.aload_n 1, 1) := by decide +kernel
theorem dX1_isFreeWithoutOne_4 : decode cX1_isFreeWithoutOne 4 = .ok (.getfield 54, 3) := by decide +kernel
theorem dX1_isFreeWithoutOne_7 : decode cX1_isFreeWithoutOne 7 = .ok (.if_icmp .ge 40, 3) := by decide +kernel
theorem dX1_isFreeWithoutOne_10 : decode cX1_isFreeWithoutOne 10 = .ok (.iload_n 2, 1) := by decide +kernel
theorem dX1_isFreeWithoutOne_11 : decode cX1_isFreeWithoutOne 11 = .ok (.iload_n 3, 1) := by decide +kernel
theorem dX1_isFreeWithoutOne_12 : decode cX1_isFreeWithoutOne 12 = .ok (.ishr, 1) := by decide +kernel
theorem dX1_isFreeWithoutOne_13 : decode cX1_isFreeWithoutOne 13 = .ok (.iconst 1, 1) := by decide +kernel
theorem dX1_isFreeWithoutOne_14 : decode cX1_isFreeWithoutOne 14 = .ok (.iand, 1) := by decide +kernel
theorem dX1_isFreeWithoutOne_15 : decode cX1_isFreeWithoutOne 15 = .ok (.ifCond .eq 26, 3) := by decide +kernel
theorem dX1_isFreeWithoutOne_18 : decode cX1_isFreeWithoutOne 18 = .ok (.aload_n 1, 1) := by decide +kernel
theorem dX1_isFreeWithoutOne_19 : decode cX1_isFreeWithoutOne 19 = .ok (.getfield 57, 3) := by decide +kernel
theorem dX1_isFreeWithoutOne_22 : decode cX1_isFreeWithoutOne 22 = .ok (.iload_n 3, 1) := by decide +kernel
theorem dX1_isFreeWithoutOne_23 : decode cX1_isFreeWithoutOne 23 = .ok (.iaload, 1) := by decide +kernel
theorem dX1_isFreeWithoutOne_24 : decode cX1_isFreeWithoutOne 24 = .ok (.iload_n 2, 1) := by decide +kernel
theorem dX1_isFreeWithoutOne_25 : decode cX1_isFreeWithoutOne 25 = .ok (.iand, 1) := by decide +kernel
theorem dX1_isFreeWithoutOne_26 : decode cX1_isFreeWithoutOne 26 = .ok (.ifCond .ne 15, 3) := by decide +kernel
theorem dX1_isFreeWithoutOne_29 : decode cX1_isFreeWithoutOne 29 = .ok (.aload_n 0, 1) := by decide +kernel
theorem dX1_isFreeWithoutOne_30 : decode cX1_isFreeWithoutOne 30 = .ok (.iload_n 2, 1) := by decide +kernel
theorem dX1_isFreeWithoutOne_31 : decode cX1_isFreeWithoutOne 31 = .ok (.iconst 1, 1) := by decide +kernel
theorem dX1_isFreeWithoutOne_32 : decode cX1_isFreeWithoutOne 32 = .ok (.iload_n 3, 1) := by decide +kernel
theorem dX1_isFreeWithoutOne_33 : decode cX1_isFreeWithoutOne 33 = .ok (.ishl, 1) := by decide +kernel
theorem dX1_isFreeWithoutOne_34 : decode cX1_isFreeWithoutOne 34 = .ok (.iconst (-1), 1) := by decide +kernel
theorem dX1_isFreeWithoutOne_35 : decode cX1_isFreeWithoutOne 35 = .ok (.ixor, 1) := by decide +kernel
theorem dX1_isFreeWithoutOne_36 : decode cX1_isFreeWithoutOne 36 = .ok (.iand, 1) := by decide +kernel
theorem dX1_isFreeWithoutOne_37 : decode cX1_isFreeWithoutOne 37 = .ok (.invokevirtual 61, 3) := by decide +kernel
theorem dX1_isFreeWithoutOne_40 : decode cX1_isFreeWithoutOne 40 = .ok (.ireturn, 1) := by decide +kernel
theorem dX1_isFreeWithoutOne_41 : decode cX1_isFreeWithoutOne 41 = .ok (.iinc 3 1, 3) := by decide +kernel
theorem dX1_isFreeWithoutOne_44 : decode cX1_isFreeWithoutOne 44 = .ok (.goto (-42), 3) := by decide +kernel
theorem dX1_isFreeWithoutOne_47 : decode cX1_isFreeWithoutOne 47 = .ok (.iconst 0, 1) := by decide +kernel
theorem dX1_isFreeWithoutOne_48 : decode cX1_isFreeWithoutOne 48 = .ok (.ireturn, 1) := by decide +kernel
theorem dX1_nextSubset_0 : decode cX1_nextSubset 0 = .ok (.iload_n 0, 1) := by decide +kernel
theorem dX1_nextSubset_1 : decode cX1_nextSubset 1 = .ok (.iload_n 1, 1) := by decide +kernel
theorem dX1_nextSubset_2 : decode cX1_nextSubset 2 = .ok (.isub, 1) := by decide +kernel
theorem dX1_nextSubset_3 : decode cX1_nextSubset 3 = .ok (.iload_n 1, 1) := by decide +kernel
theorem dX1_nextSubset_4 : decode cX1_nextSubset 4 = .ok (.iand, 1) := by decide +kernel
theorem dX1_nextSubset_5 : decode cX1_nextSubset 5 = .ok (.ireturn, 1) := by decide +kernel
theorem dX1_mark_0 : decode cX1_mark 0 = .ok (.iload_n 1, 1) := by decide +kernel
theorem dX1_mark_1 : decode cX1_mark 1 = .ok (.bipush 64, 2) := by decide +kernel
theorem dX1_mark_3 : decode cX1_mark 3 = .ok (.idiv, 1) := by decide +kernel
theorem dX1_mark_4 : decode cX1_mark 4 = .ok (.istore_n 3, 1) := by decide +kernel
theorem dX1_mark_5 : decode cX1_mark 5 = .ok (.lconst 1, 1) := by decide +kernel
theorem dX1_mark_6 : decode cX1_mark 6 = .ok (.iload_n 1, 1) := by decide +kernel
theorem dX1_mark_7 : decode cX1_mark 7 = .ok (.bipush 64, 2) := by decide +kernel
theorem dX1_mark_9 : decode cX1_mark 9 = .ok (.irem, 1) := by decide +kernel
theorem dX1_mark_10 : decode cX1_mark 10 = .ok (.lshl, 1) := by decide +kernel
theorem dX1_mark_11 : decode cX1_mark 11 = .ok (.lstore 4, 2) := by decide +kernel
theorem dX1_mark_13 : decode cX1_mark 13 = .ok (.iload_n 3, 1) := by decide +kernel
theorem dX1_mark_14 : decode cX1_mark 14 = .ok (.ifCond .lt 47, 3) := by decide +kernel
theorem dX1_mark_17 : decode cX1_mark 17 = .ok (.iload_n 3, 1) := by decide +kernel
theorem dX1_mark_18 : decode cX1_mark 18 = .ok (.aload_n 0, 1) := by decide +kernel
theorem dX1_mark_19 : decode cX1_mark 19 = .ok (.getfield 18, 3) := by decide +kernel
theorem dX1_mark_22 : decode cX1_mark 22 = .ok (.arraylength, 1) := by decide +kernel
theorem dX1_mark_23 : decode cX1_mark 23 = .ok (.if_icmp .ge 38, 3) := by decide +kernel
theorem dX1_mark_26 : decode cX1_mark 26 = .ok (.aload_n 0, 1) := by decide +kernel
theorem dX1_mark_27 : decode cX1_mark 27 = .ok (.getfield 18, 3) := by decide +kernel
theorem dX1_mark_30 : decode cX1_mark 30 = .ok (.iload_n 3, 1) := by decide +kernel
theorem dX1_mark_31 : decode cX1_mark 31 = .ok (.iload_n 2, 1) := by decide +kernel
theorem dX1_mark_32 : decode cX1_mark 32 = .ok (.ifCond .eq 15, 3) := by decide +kernel
theorem dX1_mark_35 : decode cX1_mark 35 = .ok (.aload_n 0, 1) := by decide +kernel
theorem dX1_mark_36 : decode cX1_mark 36 = .ok (.getfield 18, 3) := by decide +kernel
theorem dX1_mark_39 : decode cX1_mark 39 = .ok (.iload_n 3, 1) := by decide +kernel
theorem dX1_mark_40 : decode cX1_mark 40 = .ok (.laload, 1) := by decide +kernel
theorem dX1_mark_41 : decode cX1_mark 41 = .ok (.lload 4, 2) := by decide +kernel
theorem dX1_mark_43 : decode cX1_mark 43 = .ok (.lor, 1) := by decide +kernel
theorem dX1_mark_44 : decode cX1_mark 44 = .ok (.goto 16, 3) := by decide +kernel
theorem dX1_mark_47 : decode cX1_mark 47 = .ok (.aload_n 0, 1) := by decide +kernel
theorem dX1_mark_48 : decode cX1_mark 48 = .ok (.getfield 18, 3) := by decide +kernel
theorem dX1_mark_51 : decode cX1_mark 51 = .ok (.iload_n 3, 1) := by decide +kernel
theorem dX1_mark_52 : decode cX1_mark 52 = .ok (.laload, 1) := by decide +kernel
theorem dX1_mark_53 : decode cX1_mark 53 = .ok (.lload 4, 2) := by decide +kernel
theorem dX1_mark_55 : decode cX1_mark 55 = .ok (.ldc2_w 65, 3) := by decide +kernel
theorem dX1_mark_58 : decode cX1_mark 58 = .ok (.lxor, 1) := by decide +kernel
theorem dX1_mark_59 : decode cX1_mark 59 = .ok (.land, 1) := by decide +kernel
theorem dX1_mark_60 : decode cX1_mark 60 = .ok (.lastore, 1) := by decide +kernel
theorem dX1_mark_61 : decode cX1_mark 61 = .ok (.return_, 1) := by decide +kernel
theorem dX1_isFree_0 : decode cX1_isFree 0 = .ok (.iload_n 1, 1) := by decide +kernel
theorem dX1_isFree_1 : decode cX1_isFree 1 = .ok (.bipush 64, 2) := by decide +kernel
theorem dX1_isFree_3 : decode cX1_isFree 3 = .ok (.idiv, 1) := by decide +kernel
theorem dX1_isFree_4 : decode cX1_isFree 4 = .ok (.istore_n 2, 1) := by decide +kernel
theorem dX1_isFree_5 : decode cX1_isFree 5 = .ok (.iload_n 2, 1) := by decide +kernel
theorem dX1_isFree_6 : decode cX1_isFree 6 = .ok (.ifCond .lt 34, 3) := by decide +kernel
theorem dX1_isFree_9 : decode cX1_isFree 9 = .ok (.iload_n 2, 1) := by decide +kernel
theorem dX1_isFree_10 : decode cX1_isFree 10 = .ok (.aload_n 0, 1) := by decide +kernel
theorem dX1_isFree_11 : decode cX1_isFree 11 = .ok (.getfield 18, 3) := by decide +kernel
theorem dX1_isFree_14 : decode cX1_isFree 14 = .ok (.arraylength, 1) := by decide +kernel
theorem dX1_isFree_15 : decode cX1_isFree 15 = .ok (.if_icmp .ge 25, 3) := by decide +kernel
theorem dX1_isFree_18 : decode cX1_isFree 18 = .ok (.aload_n 0, 1) := by decide +kernel
theorem dX1_isFree_19 : decode cX1_isFree 19 = .ok (.getfield 18, 3) := by decide +kernel
theorem dX1_isFree_22 : decode cX1_isFree 22 = .ok (.iload_n 2, 1) := by decide +kernel
theorem dX1_isFree_23 : decode cX1_isFree 23 = .ok (.laload, 1) := by decide +kernel
theorem dX1_isFree_24 : decode cX1_isFree 24 = .ok (.iload_n 1, 1) := by decide +kernel
theorem dX1_isFree_25 : decode cX1_isFree 25 = .ok (.bipush 64, 2) := by decide +kernel
theorem dX1_isFree_27 : decode cX1_isFree 27 = .ok (.irem, 1) := by decide +kernel
theorem dX1_isFree_28 : decode cX1_isFree 28 = .ok (.lshr, 1) := by decide +kernel
theorem dX1_isFree_29 : decode cX1_isFree 29 = .ok (.lconst 1, 1) := by decide +kernel
theorem dX1_isFree_30 : decode cX1_isFree 30 = .ok (.land, 1) := by decide +kernel
theorem dX1_isFree_31 : decode cX1_isFree 31 = .ok (.lconst 0, 1) := by decide +kernel
theorem dX1_isFree_32 : decode cX1_isFree 32 = .ok (.lcmp, 1) := by decide +kernel
theorem dX1_isFree_33 : decode cX1_isFree 33 = .ok (.ifCond .eq 7, 3) := by decide +kernel
theorem dX1_isFree_36 : decode cX1_isFree 36 = .ok (.iconst 1, 1) := by decide +kernel
theorem dX1_isFree_37 : decode cX1_isFree 37 = .ok (.goto 4, 3) := by decide +kernel
theorem dX1_isFree_40 : decode cX1_isFree 40 = .ok (.iconst 0, 1) := by decide +kernel
theorem dX1_isFree_41 : decode cX1_isFree 41 = .ok (.ireturn, 1) := by decide +kernel
set_option maxRecDepth 20000 in
theorem ggX1_cheapest_X3_costOf : GoodIn wsX1_cheapest wsX3_costOf := goodIn_r _ [6, 7, 8, 28, 29, 30, 31, 32] (by decide +kernel) (by decide +kernel)
set_option maxRecDepth 20000 in
theorem gX1_cheapest_X3_costOf_n67 : GoodIn wsX1_cheapest (wsX3_costOf) := ggX1_cheapest_X3_costOf
set_option maxRecDepth 20000 in
theorem ggX1_cheapest_J6_bitCount_0f7a4 : GoodIn wsX1_cheapest wsJ6_bitCount_0f7a4 := goodIn_r _ [12, 13, 14, 15] (by decide +kernel) (by decide +kernel)
set_option maxRecDepth 20000 in
theorem gX1_cheapest_J6_bitCount_0f7a4 : GoodIn wsX1_cheapest (va_wsS RX1 36 yJ6_bitCount_0f7a4 wsJ6_bitCount_0f7a4) := goodIn_app (goodIn_of _ (by decide +kernel)) ggX1_cheapest_J6_bitCount_0f7a4
set_option maxRecDepth 20000 in
theorem ggX1_cheapest_X1_isFree : GoodIn wsX1_cheapest wsX1_isFree := goodIn_r _ [20, 21, 25, 26, 27] (by decide +kernel) (by decide +kernel)
set_option maxRecDepth 20000 in
theorem gX1_cheapest_X1_isFree : GoodIn wsX1_cheapest (wsV RX1 61 RX1 yX1_isFree wsX1_isFree) := goodIn_app (goodIn_of _ (by decide +kernel)) ggX1_cheapest_X1_isFree
set_option maxRecDepth 20000 in
theorem ggX1_cheapest_X1_nextSubset : GoodIn wsX1_cheapest wsX1_nextSubset := goodIn_r _ [24] (by decide +kernel) (by decide +kernel)
set_option maxRecDepth 20000 in
theorem gX1_cheapest_X1_nextSubset : GoodIn wsX1_cheapest (va_wsS RX1 50 yX1_nextSubset wsX1_nextSubset) := goodIn_app (goodIn_of _ (by decide +kernel)) ggX1_cheapest_X1_nextSubset
theorem dX1_cheapest_0 : decode cX1_cheapest 0 = .ok (.aload_n 0, 1) := by decide +kernel
theorem dX1_cheapest_1 : decode cX1_cheapest 1 = .ok (.getfield 15, 3) := by decide +kernel
theorem dX1_cheapest_4 : decode cX1_cheapest 4 = .ok (.iload_n 2, 1) := by decide +kernel
theorem dX1_cheapest_5 : decode cX1_cheapest 5 = .ok (.iconst (-1), 1) := by decide +kernel
theorem dX1_cheapest_6 : decode cX1_cheapest 6 = .ok (.ixor, 1) := by decide +kernel
theorem dX1_cheapest_7 : decode cX1_cheapest 7 = .ok (.iand, 1) := by decide +kernel
theorem dX1_cheapest_8 : decode cX1_cheapest 8 = .ok (.istore_n 3, 1) := by decide +kernel
theorem dX1_cheapest_9 : decode cX1_cheapest 9 = .ok (.iload_n 3, 1) := by decide +kernel
theorem dX1_cheapest_10 : decode cX1_cheapest 10 = .ok (.istore 4, 2) := by decide +kernel
theorem dX1_cheapest_12 : decode cX1_cheapest 12 = .ok (.aload_n 1, 1) := by decide +kernel
theorem dX1_cheapest_13 : decode cX1_cheapest 13 = .ok (.iload 4, 2) := by decide +kernel
theorem dX1_cheapest_15 : decode cX1_cheapest 15 = .ok (.invokevirtual 67, 3) := by decide +kernel
theorem dX1_cheapest_18 : decode cX1_cheapest 18 = .ok (.istore 5, 2) := by decide +kernel
theorem dX1_cheapest_20 : decode cX1_cheapest 20 = .ok (.iconst 1, 1) := by decide +kernel
theorem dX1_cheapest_21 : decode cX1_cheapest 21 = .ok (.iload_n 3, 1) := by decide +kernel
theorem dX1_cheapest_22 : decode cX1_cheapest 22 = .ok (.invokestatic 36, 3) := by decide +kernel
theorem dX1_cheapest_25 : decode cX1_cheapest 25 = .ok (.ishl, 1) := by decide +kernel
theorem dX1_cheapest_26 : decode cX1_cheapest 26 = .ok (.istore 6, 2) := by decide +kernel
theorem dX1_cheapest_28 : decode cX1_cheapest 28 = .ok (.iconst 0, 1) := by decide +kernel
theorem dX1_cheapest_29 : decode cX1_cheapest 29 = .ok (.istore 7, 2) := by decide +kernel
theorem dX1_cheapest_31 : decode cX1_cheapest 31 = .ok (.iconst 0, 1) := by decide +kernel
theorem dX1_cheapest_32 : decode cX1_cheapest 32 = .ok (.istore 8, 2) := by decide +kernel
theorem dX1_cheapest_34 : decode cX1_cheapest 34 = .ok (.iload 8, 2) := by decide +kernel
theorem dX1_cheapest_36 : decode cX1_cheapest 36 = .ok (.iload 6, 2) := by decide +kernel
theorem dX1_cheapest_38 : decode cX1_cheapest 38 = .ok (.if_icmp .ge 85, 3) := by decide +kernel
theorem dX1_cheapest_41 : decode cX1_cheapest 41 = .ok (.aload_n 0, 1) := by decide +kernel
theorem dX1_cheapest_42 : decode cX1_cheapest 42 = .ok (.iload_n 3, 1) := by decide +kernel
theorem dX1_cheapest_43 : decode cX1_cheapest 43 = .ok (.iload 7, 2) := by decide +kernel
theorem dX1_cheapest_45 : decode cX1_cheapest 45 = .ok (.iconst (-1), 1) := by decide +kernel
theorem dX1_cheapest_46 : decode cX1_cheapest 46 = .ok (.ixor, 1) := by decide +kernel
theorem dX1_cheapest_47 : decode cX1_cheapest 47 = .ok (.iand, 1) := by decide +kernel
theorem dX1_cheapest_48 : decode cX1_cheapest 48 = .ok (.invokevirtual 61, 3) := by decide +kernel
theorem dX1_cheapest_51 : decode cX1_cheapest 51 = .ok (.ifCond .eq 58, 3) := by decide +kernel
theorem dX1_cheapest_54 : decode cX1_cheapest 54 = .ok (.aload_n 1, 1) := by decide +kernel
theorem dX1_cheapest_55 : decode cX1_cheapest 55 = .ok (.iload 7, 2) := by decide +kernel
theorem dX1_cheapest_57 : decode cX1_cheapest 57 = .ok (.invokevirtual 67, 3) := by decide +kernel
theorem dX1_cheapest_60 : decode cX1_cheapest 60 = .ok (.istore 9, 2) := by decide +kernel
theorem dX1_cheapest_62 : decode cX1_cheapest 62 = .ok (.iload 7, 2) := by decide +kernel
theorem dX1_cheapest_64 : decode cX1_cheapest 64 = .ok (.invokestatic 36, 3) := by decide +kernel
theorem dX1_cheapest_67 : decode cX1_cheapest 67 = .ok (.iload 4, 2) := by decide +kernel
theorem dX1_cheapest_69 : decode cX1_cheapest 69 = .ok (.invokestatic 36, 3) := by decide +kernel
theorem dX1_cheapest_72 : decode cX1_cheapest 72 = .ok (.if_icmp .ge 7, 3) := by decide +kernel
theorem dX1_cheapest_75 : decode cX1_cheapest 75 = .ok (.iconst 1, 1) := by decide +kernel
theorem dX1_cheapest_76 : decode cX1_cheapest 76 = .ok (.goto 4, 3) := by decide +kernel
theorem dX1_cheapest_79 : decode cX1_cheapest 79 = .ok (.iconst 0, 1) := by decide +kernel
theorem dX1_cheapest_80 : decode cX1_cheapest 80 = .ok (.istore 10, 2) := by decide +kernel
theorem dX1_cheapest_82 : decode cX1_cheapest 82 = .ok (.iload 9, 2) := by decide +kernel
theorem dX1_cheapest_84 : decode cX1_cheapest 84 = .ok (.iload 5, 2) := by decide +kernel
theorem dX1_cheapest_86 : decode cX1_cheapest 86 = .ok (.if_icmp .lt 15, 3) := by decide +kernel
theorem dX1_cheapest_89 : decode cX1_cheapest 89 = .ok (.iload 9, 2) := by decide +kernel
theorem dX1_cheapest_91 : decode cX1_cheapest 91 = .ok (.iload 5, 2) := by decide +kernel
theorem dX1_cheapest_93 : decode cX1_cheapest 93 = .ok (.if_icmp .ne 16, 3) := by decide +kernel
theorem dX1_cheapest_96 : decode cX1_cheapest 96 = .ok (.iload 10, 2) := by decide +kernel
theorem dX1_cheapest_98 : decode cX1_cheapest 98 = .ok (.ifCond .eq 11, 3) := by decide +kernel
theorem dX1_cheapest_101 : decode cX1_cheapest 101 = .ok (.iload 7, 2) := by decide +kernel
theorem dX1_cheapest_103 : decode cX1_cheapest 103 = .ok (.istore 4, 2) := by decide +kernel
theorem dX1_cheapest_105 : decode cX1_cheapest 105 = .ok (.iload 9, 2) := by decide +kernel
theorem dX1_cheapest_107 : decode cX1_cheapest 107 = .ok (.istore 5, 2) := by decide +kernel
theorem dX1_cheapest_109 : decode cX1_cheapest 109 = .ok (.iload 7, 2) := by decide +kernel
theorem dX1_cheapest_111 : decode cX1_cheapest 111 = .ok (.iload_n 3, 1) := by decide +kernel
theorem dX1_cheapest_112 : decode cX1_cheapest 112 = .ok (.invokestatic 50, 3) := by decide +kernel
theorem dX1_cheapest_115 : decode cX1_cheapest 115 = .ok (.istore 7, 2) := by decide +kernel
theorem dX1_cheapest_117 : decode cX1_cheapest 117 = .ok (.iinc 8 1, 3) := by decide +kernel
theorem dX1_cheapest_120 : decode cX1_cheapest 120 = .ok (.goto (-86), 3) := by decide +kernel
theorem dX1_cheapest_123 : decode cX1_cheapest 123 = .ok (.iload 4, 2) := by decide +kernel
theorem dX1_cheapest_125 : decode cX1_cheapest 125 = .ok (.aload_n 0, 1) := by decide +kernel
theorem dX1_cheapest_126 : decode cX1_cheapest 126 = .ok (.getfield 9, 3) := by decide +kernel
theorem dX1_cheapest_129 : decode cX1_cheapest 129 = .ok (.iload_n 2, 1) := by decide +kernel
theorem dX1_cheapest_130 : decode cX1_cheapest 130 = .ok (.iconst (-1), 1) := by decide +kernel
theorem dX1_cheapest_131 : decode cX1_cheapest 131 = .ok (.ixor, 1) := by decide +kernel
theorem dX1_cheapest_132 : decode cX1_cheapest 132 = .ok (.iand, 1) := by decide +kernel
theorem dX1_cheapest_133 : decode cX1_cheapest 133 = .ok (.ior, 1) := by decide +kernel
theorem dX1_cheapest_134 : decode cX1_cheapest 134 = .ok (.ireturn, 1) := by decide +kernel
set_option maxRecDepth 20000 in
theorem ggX1_isLeast_X1_isFree : GoodIn wsX1_isLeast wsX1_isFree := goodIn_r _ [6, 7, 8, 9, 10] (by decide +kernel) (by decide +kernel)
set_option maxRecDepth 20000 in
theorem gX1_isLeast_X1_isFree : GoodIn wsX1_isLeast (wsV RX1 61 RX1 yX1_isFree wsX1_isFree) := goodIn_app (goodIn_of _ (by decide +kernel)) ggX1_isLeast_X1_isFree
theorem dX1_isLeast_0 : decode cX1_isLeast 0 = .ok (.aload_n 0, 1) := by decide +kernel
theorem dX1_isLeast_1 : decode cX1_isLeast 1 = .ok (.getfield 15, 3) := by decide +kernel
theorem dX1_isLeast_4 : decode cX1_isLeast 4 = .ok (.iload_n 1, 1) := by decide +kernel
theorem dX1_isLeast_5 : decode cX1_isLeast 5 = .ok (.iconst (-1), 1) := by decide +kernel
theorem dX1_isLeast_6 : decode cX1_isLeast 6 = .ok (.ixor, 1) := by decide +kernel
theorem dX1_isLeast_7 : decode cX1_isLeast 7 = .ok (.iand, 1) := by decide +kernel
theorem dX1_isLeast_8 : decode cX1_isLeast 8 = .ok (.istore_n 2, 1) := by decide +kernel
theorem dX1_isLeast_9 : decode cX1_isLeast 9 = .ok (.aload_n 0, 1) := by decide +kernel
theorem dX1_isLeast_10 : decode cX1_isLeast 10 = .ok (.iload_n 2, 1) := by decide +kernel
theorem dX1_isLeast_11 : decode cX1_isLeast 11 = .ok (.invokevirtual 61, 3) := by decide +kernel
theorem dX1_isLeast_14 : decode cX1_isLeast 14 = .ok (.ifCond .ne 5, 3) := by decide +kernel
theorem dX1_isLeast_17 : decode cX1_isLeast 17 = .ok (.iconst 0, 1) := by decide +kernel
theorem dX1_isLeast_18 : decode cX1_isLeast 18 = .ok (.ireturn, 1) := by decide +kernel
theorem dX1_isLeast_19 : decode cX1_isLeast 19 = .ok (.iconst 0, 1) := by decide +kernel
theorem dX1_isLeast_20 : decode cX1_isLeast 20 = .ok (.istore_n 3, 1) := by decide +kernel
theorem dX1_isLeast_21 : decode cX1_isLeast 21 = .ok (.iload_n 3, 1) := by decide +kernel
theorem dX1_isLeast_22 : decode cX1_isLeast 22 = .ok (.bipush 14, 2) := by decide +kernel
theorem dX1_isLeast_24 : decode cX1_isLeast 24 = .ok (.if_icmp .ge 31, 3) := by decide +kernel
theorem dX1_isLeast_27 : decode cX1_isLeast 27 = .ok (.iload_n 1, 1) := by decide +kernel
theorem dX1_isLeast_28 : decode cX1_isLeast 28 = .ok (.iload_n 3, 1) := by decide +kernel
theorem dX1_isLeast_29 : decode cX1_isLeast 29 = .ok (.ishr, 1) := by decide +kernel
theorem dX1_isLeast_30 : decode cX1_isLeast 30 = .ok (.iconst 1, 1) := by decide +kernel
theorem dX1_isLeast_31 : decode cX1_isLeast 31 = .ok (.iand, 1) := by decide +kernel
theorem dX1_isLeast_32 : decode cX1_isLeast 32 = .ok (.ifCond .eq 17, 3) := by decide +kernel
theorem dX1_isLeast_35 : decode cX1_isLeast 35 = .ok (.aload_n 0, 1) := by decide +kernel
theorem dX1_isLeast_36 : decode cX1_isLeast 36 = .ok (.iload_n 2, 1) := by decide +kernel
theorem dX1_isLeast_37 : decode cX1_isLeast 37 = .ok (.iconst 1, 1) := by decide +kernel
theorem dX1_isLeast_38 : decode cX1_isLeast 38 = .ok (.iload_n 3, 1) := by decide +kernel
theorem dX1_isLeast_39 : decode cX1_isLeast 39 = .ok (.ishl, 1) := by decide +kernel
theorem dX1_isLeast_40 : decode cX1_isLeast 40 = .ok (.ior, 1) := by decide +kernel
theorem dX1_isLeast_41 : decode cX1_isLeast 41 = .ok (.invokevirtual 61, 3) := by decide +kernel
theorem dX1_isLeast_44 : decode cX1_isLeast 44 = .ok (.ifCond .eq 5, 3) := by decide +kernel
theorem dX1_isLeast_47 : decode cX1_isLeast 47 = .ok (.iconst 0, 1) := by decide +kernel
theorem dX1_isLeast_48 : decode cX1_isLeast 48 = .ok (.ireturn, 1) := by decide +kernel
theorem dX1_isLeast_49 : decode cX1_isLeast 49 = .ok (.iinc 3 1, 3) := by decide +kernel
theorem dX1_isLeast_52 : decode cX1_isLeast 52 = .ok (.goto (-31), 3) := by decide +kernel
theorem dX1_isLeast_55 : decode cX1_isLeast 55 = .ok (.iconst 1, 1) := by decide +kernel
theorem dX1_isLeast_56 : decode cX1_isLeast 56 = .ok (.ireturn, 1) := by decide +kernel
set_option maxRecDepth 20000 in
theorem ggX1_leastWith_J6_bitCount_0f7a4 : GoodIn wsX1_leastWith wsJ6_bitCount_0f7a4 := goodIn_r _ [6, 7, 8, 9] (by decide +kernel) (by decide +kernel)
set_option maxRecDepth 20000 in
theorem gX1_leastWith_J6_bitCount_0f7a4 : GoodIn wsX1_leastWith (va_wsS RX1 36 yJ6_bitCount_0f7a4 wsJ6_bitCount_0f7a4) := goodIn_app (goodIn_of _ (by decide +kernel)) ggX1_leastWith_J6_bitCount_0f7a4
set_option maxRecDepth 20000 in
theorem ggX1_leastWith_X1_isLeast : GoodIn wsX1_leastWith wsX1_isLeast := goodIn_r _ [14, 1, 15, 16, 17, 13, 18, 19, 23, 24, 25] (by decide +kernel) (by decide +kernel)
set_option maxRecDepth 20000 in
theorem gX1_leastWith_X1_isLeast : GoodIn wsX1_leastWith (wsV RX1 70 RX1 yX1_isLeast wsX1_isLeast) := goodIn_app (goodIn_of _ (by decide +kernel)) ggX1_leastWith_X1_isLeast
set_option maxRecDepth 20000 in
theorem ggX1_leastWith_X1_nextSubset : GoodIn wsX1_leastWith wsX1_nextSubset := goodIn_r _ [22] (by decide +kernel) (by decide +kernel)
set_option maxRecDepth 20000 in
theorem gX1_leastWith_X1_nextSubset : GoodIn wsX1_leastWith (va_wsS RX1 50 yX1_nextSubset wsX1_nextSubset) := goodIn_app (goodIn_of _ (by decide +kernel)) ggX1_leastWith_X1_nextSubset
theorem dX1_leastWith_0 : decode cX1_leastWith 0 = .ok (.iconst 0, 1) := by decide +kernel
theorem dX1_leastWith_1 : decode cX1_leastWith 1 = .ok (.istore_n 2, 1) := by decide +kernel
theorem dX1_leastWith_2 : decode cX1_leastWith 2 = .ok (.iconst 1, 1) := by decide +kernel
theorem dX1_leastWith_3 : decode cX1_leastWith 3 = .ok (.aload_n 0, 1) := by decide +kernel
theorem dX1_leastWith_4 : decode cX1_leastWith 4 = .ok (.getfield 15, 3) := by decide +kernel
theorem dX1_leastWith_7 : decode cX1_leastWith 7 = .ok (.invokestatic 36, 3) := by decide +kernel
theorem dX1_leastWith_10 : decode cX1_leastWith 10 = .ok (.ishl, 1) := by decide +kernel
theorem dX1_leastWith_11 : decode cX1_leastWith 11 = .ok (.istore_n 3, 1) := by decide +kernel
theorem dX1_leastWith_12 : decode cX1_leastWith 12 = .ok (.iconst 0, 1) := by decide +kernel
theorem dX1_leastWith_13 : decode cX1_leastWith 13 = .ok (.istore 4, 2) := by decide +kernel
theorem dX1_leastWith_15 : decode cX1_leastWith 15 = .ok (.iconst 0, 1) := by decide +kernel
theorem dX1_leastWith_16 : decode cX1_leastWith 16 = .ok (.istore 5, 2) := by decide +kernel
theorem dX1_leastWith_18 : decode cX1_leastWith 18 = .ok (.iload 5, 2) := by decide +kernel
theorem dX1_leastWith_20 : decode cX1_leastWith 20 = .ok (.iload_n 3, 1) := by decide +kernel
theorem dX1_leastWith_21 : decode cX1_leastWith 21 = .ok (.if_icmp .ge 46, 3) := by decide +kernel
theorem dX1_leastWith_24 : decode cX1_leastWith 24 = .ok (.iload_n 1, 1) := by decide +kernel
theorem dX1_leastWith_25 : decode cX1_leastWith 25 = .ok (.iload 4, 2) := by decide +kernel
theorem dX1_leastWith_27 : decode cX1_leastWith 27 = .ok (.aload_n 0, 1) := by decide +kernel
theorem dX1_leastWith_28 : decode cX1_leastWith 28 = .ok (.getfield 9, 3) := by decide +kernel
theorem dX1_leastWith_31 : decode cX1_leastWith 31 = .ok (.ior, 1) := by decide +kernel
theorem dX1_leastWith_32 : decode cX1_leastWith 32 = .ok (.iconst (-1), 1) := by decide +kernel
theorem dX1_leastWith_33 : decode cX1_leastWith 33 = .ok (.ixor, 1) := by decide +kernel
theorem dX1_leastWith_34 : decode cX1_leastWith 34 = .ok (.iand, 1) := by decide +kernel
theorem dX1_leastWith_35 : decode cX1_leastWith 35 = .ok (.ifCond .ne 15, 3) := by decide +kernel
theorem dX1_leastWith_38 : decode cX1_leastWith 38 = .ok (.aload_n 0, 1) := by decide +kernel
theorem dX1_leastWith_39 : decode cX1_leastWith 39 = .ok (.iload 4, 2) := by decide +kernel
theorem dX1_leastWith_41 : decode cX1_leastWith 41 = .ok (.invokevirtual 70, 3) := by decide +kernel
theorem dX1_leastWith_44 : decode cX1_leastWith 44 = .ok (.ifCond .eq 6, 3) := by decide +kernel
theorem dX1_leastWith_47 : decode cX1_leastWith 47 = .ok (.iinc 2 1, 3) := by decide +kernel
theorem dX1_leastWith_50 : decode cX1_leastWith 50 = .ok (.iload 4, 2) := by decide +kernel
theorem dX1_leastWith_52 : decode cX1_leastWith 52 = .ok (.aload_n 0, 1) := by decide +kernel
theorem dX1_leastWith_53 : decode cX1_leastWith 53 = .ok (.getfield 15, 3) := by decide +kernel
theorem dX1_leastWith_56 : decode cX1_leastWith 56 = .ok (.invokestatic 50, 3) := by decide +kernel
theorem dX1_leastWith_59 : decode cX1_leastWith 59 = .ok (.istore 4, 2) := by decide +kernel
theorem dX1_leastWith_61 : decode cX1_leastWith 61 = .ok (.iinc 5 1, 3) := by decide +kernel
theorem dX1_leastWith_64 : decode cX1_leastWith 64 = .ok (.goto (-46), 3) := by decide +kernel
theorem dX1_leastWith_67 : decode cX1_leastWith 67 = .ok (.iload_n 2, 1) := by decide +kernel
theorem dX1_leastWith_68 : decode cX1_leastWith 68 = .ok (.ireturn, 1) := by decide +kernel
set_option maxRecDepth 20000 in
theorem ggX1_greatestLeast_J6_bitCount_0f7a4 : GoodIn wsX1_greatestLeast wsJ6_bitCount_0f7a4 := goodIn_r _ [6, 7, 8, 9] (by decide +kernel) (by decide +kernel)
set_option maxRecDepth 20000 in
theorem gX1_greatestLeast_J6_bitCount_0f7a4 : GoodIn wsX1_greatestLeast (va_wsS RX1 36 yJ6_bitCount_0f7a4 wsJ6_bitCount_0f7a4) := goodIn_app (goodIn_of _ (by decide +kernel)) ggX1_greatestLeast_J6_bitCount_0f7a4
set_option maxRecDepth 20000 in
theorem ggX1_greatestLeast_X1_isLeast : GoodIn wsX1_greatestLeast wsX1_isLeast := goodIn_r _ [14, 1, 15, 16, 17, 13, 18, 19, 23, 24, 25] (by decide +kernel) (by decide +kernel)
set_option maxRecDepth 20000 in
theorem gX1_greatestLeast_X1_isLeast : GoodIn wsX1_greatestLeast (wsV RX1 70 RX1 yX1_isLeast wsX1_isLeast) := goodIn_app (goodIn_of _ (by decide +kernel)) ggX1_greatestLeast_X1_isLeast
set_option maxRecDepth 20000 in
theorem ggX1_greatestLeast_X1_nextSubset : GoodIn wsX1_greatestLeast wsX1_nextSubset := goodIn_r _ [22] (by decide +kernel) (by decide +kernel)
set_option maxRecDepth 20000 in
theorem gX1_greatestLeast_X1_nextSubset : GoodIn wsX1_greatestLeast (va_wsS RX1 50 yX1_nextSubset wsX1_nextSubset) := goodIn_app (goodIn_of _ (by decide +kernel)) ggX1_greatestLeast_X1_nextSubset
theorem dX1_greatestLeast_0 : decode cX1_greatestLeast 0 = .ok (.iconst 0, 1) := by decide +kernel
theorem dX1_greatestLeast_1 : decode cX1_greatestLeast 1 = .ok (.istore_n 1, 1) := by decide +kernel
theorem dX1_greatestLeast_2 : decode cX1_greatestLeast 2 = .ok (.iconst 1, 1) := by decide +kernel
theorem dX1_greatestLeast_3 : decode cX1_greatestLeast 3 = .ok (.aload_n 0, 1) := by decide +kernel
theorem dX1_greatestLeast_4 : decode cX1_greatestLeast 4 = .ok (.getfield 15, 3) := by decide +kernel
theorem dX1_greatestLeast_7 : decode cX1_greatestLeast 7 = .ok (.invokestatic 36, 3) := by decide +kernel
theorem dX1_greatestLeast_10 : decode cX1_greatestLeast 10 = .ok (.ishl, 1) := by decide +kernel
theorem dX1_greatestLeast_11 : decode cX1_greatestLeast 11 = .ok (.istore_n 2, 1) := by decide +kernel
theorem dX1_greatestLeast_12 : decode cX1_greatestLeast 12 = .ok (.iconst 0, 1) := by decide +kernel
theorem dX1_greatestLeast_13 : decode cX1_greatestLeast 13 = .ok (.istore_n 3, 1) := by decide +kernel
theorem dX1_greatestLeast_14 : decode cX1_greatestLeast 14 = .ok (.iconst 0, 1) := by decide +kernel
theorem dX1_greatestLeast_15 : decode cX1_greatestLeast 15 = .ok (.istore 4, 2) := by decide +kernel
theorem dX1_greatestLeast_17 : decode cX1_greatestLeast 17 = .ok (.iload 4, 2) := by decide +kernel
theorem dX1_greatestLeast_19 : decode cX1_greatestLeast 19 = .ok (.iload_n 2, 1) := by decide +kernel
theorem dX1_greatestLeast_20 : decode cX1_greatestLeast 20 = .ok (.if_icmp .ge 46, 3) := by decide +kernel
theorem dX1_greatestLeast_23 : decode cX1_greatestLeast 23 = .ok (.iload_n 3, 1) := by decide +kernel
theorem dX1_greatestLeast_24 : decode cX1_greatestLeast 24 = .ok (.aload_n 0, 1) := by decide +kernel
theorem dX1_greatestLeast_25 : decode cX1_greatestLeast 25 = .ok (.getfield 9, 3) := by decide +kernel
theorem dX1_greatestLeast_28 : decode cX1_greatestLeast 28 = .ok (.ior, 1) := by decide +kernel
theorem dX1_greatestLeast_29 : decode cX1_greatestLeast 29 = .ok (.invokestatic 36, 3) := by decide +kernel
theorem dX1_greatestLeast_32 : decode cX1_greatestLeast 32 = .ok (.istore 5, 2) := by decide +kernel
theorem dX1_greatestLeast_34 : decode cX1_greatestLeast 34 = .ok (.iload 5, 2) := by decide +kernel
theorem dX1_greatestLeast_36 : decode cX1_greatestLeast 36 = .ok (.iload_n 1, 1) := by decide +kernel
theorem dX1_greatestLeast_37 : decode cX1_greatestLeast 37 = .ok (.if_icmp .le 14, 3) := by decide +kernel
theorem dX1_greatestLeast_40 : decode cX1_greatestLeast 40 = .ok (.aload_n 0, 1) := by decide +kernel
theorem dX1_greatestLeast_41 : decode cX1_greatestLeast 41 = .ok (.iload_n 3, 1) := by decide +kernel
theorem dX1_greatestLeast_42 : decode cX1_greatestLeast 42 = .ok (.invokevirtual 70, 3) := by decide +kernel
theorem dX1_greatestLeast_45 : decode cX1_greatestLeast 45 = .ok (.ifCond .eq 6, 3) := by decide +kernel
theorem dX1_greatestLeast_48 : decode cX1_greatestLeast 48 = .ok (.iload 5, 2) := by decide +kernel
theorem dX1_greatestLeast_50 : decode cX1_greatestLeast 50 = .ok (.istore_n 1, 1) := by decide +kernel
theorem dX1_greatestLeast_51 : decode cX1_greatestLeast 51 = .ok (.iload_n 3, 1) := by decide +kernel
theorem dX1_greatestLeast_52 : decode cX1_greatestLeast 52 = .ok (.aload_n 0, 1) := by decide +kernel
theorem dX1_greatestLeast_53 : decode cX1_greatestLeast 53 = .ok (.getfield 15, 3) := by decide +kernel
theorem dX1_greatestLeast_56 : decode cX1_greatestLeast 56 = .ok (.invokestatic 50, 3) := by decide +kernel
theorem dX1_greatestLeast_59 : decode cX1_greatestLeast 59 = .ok (.istore_n 3, 1) := by decide +kernel
theorem dX1_greatestLeast_60 : decode cX1_greatestLeast 60 = .ok (.iinc 4 1, 3) := by decide +kernel
theorem dX1_greatestLeast_63 : decode cX1_greatestLeast 63 = .ok (.goto (-46), 3) := by decide +kernel
theorem dX1_greatestLeast_66 : decode cX1_greatestLeast 66 = .ok (.iload_n 1, 1) := by decide +kernel
theorem dX1_greatestLeast_67 : decode cX1_greatestLeast 67 = .ok (.ireturn, 1) := by decide +kernel
theorem dX2_init_0 : decode cX2_init 0 = .ok (.aload_n 0, 1) := by decide +kernel
theorem dX2_init_1 : decode cX2_init 1 = .ok (.invokespecial 3, 3) := by decide +kernel
theorem dX2_init_4 : decode cX2_init 4 = .ok (.aload_n 0, 1) := by decide +kernel
theorem dX2_init_5 : decode cX2_init 5 = .ok (.bipush 20, 2) := by decide +kernel
theorem dX2_init_7 : decode cX2_init 7 = .ok (.newarray .int, 2) := by decide +kernel
theorem dX2_init_9 : decode cX2_init 9 = .ok (.putfield 9, 3) := by decide +kernel
theorem dX2_init_12 : decode cX2_init 12 = .ok (.aload_n 0, 1) := by decide +kernel
theorem dX2_init_13 : decode cX2_init 13 = .ok (.iconst 0, 1) := by decide +kernel
theorem dX2_init_14 : decode cX2_init 14 = .ok (.putfield 15, 3) := by decide +kernel
theorem dX2_init_17 : decode cX2_init 17 = .ok (.return_, 1) := by decide +kernel
theorem dX2_append_0 : decode cX2_append 0 = .ok (.aload_n 0, 1) := by decide +kernel
theorem dX2_append_1 : decode cX2_append 1 = .ok (.getfield 15, 3) := by decide +kernel
theorem dX2_append_4 : decode cX2_append 4 = .ok (.bipush 20, 2) := by decide +kernel
theorem dX2_append_6 : decode cX2_append 6 = .ok (.if_icmp .ge 23, 3) := by decide +kernel
theorem dX2_append_9 : decode cX2_append 9 = .ok (.aload_n 0, 1) := by decide +kernel
theorem dX2_append_10 : decode cX2_append 10 = .ok (.getfield 9, 3) := by decide +kernel
theorem dX2_append_13 : decode cX2_append 13 = .ok (.aload_n 0, 1) := by decide +kernel
theorem dX2_append_14 : decode cX2_append 14 = .ok (.getfield 15, 3) := by decide +kernel
theorem dX2_append_17 : decode cX2_append 17 = .ok (.iload_n 1, 1) := by decide +kernel
theorem dX2_append_18 : decode cX2_append 18 = .ok (.iastore, 1) := by decide +kernel
theorem dX2_append_19 : decode cX2_append 19 = .ok (.aload_n 0, 1) := by decide +kernel
theorem dX2_append_20 : decode cX2_append 20 = .ok (.dup, 1) := by decide +kernel
theorem dX2_append_21 : decode cX2_append 21 = .ok (.getfield 15, 3) := by decide +kernel
theorem dX2_append_24 : decode cX2_append 24 = .ok (.iconst 1, 1) := by decide +kernel
theorem dX2_append_25 : decode cX2_append 25 = .ok (.iadd, 1) := by decide +kernel
theorem dX2_append_26 : decode cX2_append 26 = .ok (.putfield 15, 3) := by decide +kernel
theorem dX2_append_29 : decode cX2_append 29 = .ok (.return_, 1) := by decide +kernel
set_option maxRecDepth 20000 in
theorem ggX2_faultPlace_X2_wordBit : GoodIn wsX2_faultPlace wsX2_wordBit := goodIn_r _ [6] (by decide +kernel) (by decide +kernel)
set_option maxRecDepth 20000 in
theorem gX2_faultPlace_X2_wordBit : GoodIn wsX2_faultPlace (va_wsS RX2 19 yX2_wordBit wsX2_wordBit) := goodIn_app (goodIn_of _ (by decide +kernel)) ggX2_faultPlace_X2_wordBit
set_option maxRecDepth 20000 in
theorem ggX2_faultPlace_X2_tellsBare : GoodIn wsX2_faultPlace wsX2_tellsBare := goodIn_r _ [10, 2, 11, 12] (by decide +kernel) (by decide +kernel)
set_option maxRecDepth 20000 in
theorem gX2_faultPlace_X2_tellsBare : GoodIn wsX2_faultPlace (wsV RX2 23 RX2 yX2_tellsBare wsX2_tellsBare) := goodIn_app (goodIn_of _ (by decide +kernel)) ggX2_faultPlace_X2_tellsBare
theorem dX2_faultPlace_0 : decode cX2_faultPlace 0 = .ok (.aload_n 0, 1) := by decide +kernel
theorem dX2_faultPlace_1 : decode cX2_faultPlace 1 = .ok (.getfield 15, 3) := by decide +kernel
theorem dX2_faultPlace_4 : decode cX2_faultPlace 4 = .ok (.ifCond .eq 16, 3) := by decide +kernel
theorem dX2_faultPlace_7 : decode cX2_faultPlace 7 = .ok (.aload_n 0, 1) := by decide +kernel
theorem dX2_faultPlace_8 : decode cX2_faultPlace 8 = .ok (.getfield 9, 3) := by decide +kernel
theorem dX2_faultPlace_11 : decode cX2_faultPlace 11 = .ok (.iconst 0, 1) := by decide +kernel
theorem dX2_faultPlace_12 : decode cX2_faultPlace 12 = .ok (.iaload, 1) := by decide +kernel
theorem dX2_faultPlace_13 : decode cX2_faultPlace 13 = .ok (.iload_n 1, 1) := by decide +kernel
theorem dX2_faultPlace_14 : decode cX2_faultPlace 14 = .ok (.invokestatic 19, 3) := by decide +kernel
theorem dX2_faultPlace_17 : decode cX2_faultPlace 17 = .ok (.ifCond .ne 5, 3) := by decide +kernel
theorem dX2_faultPlace_20 : decode cX2_faultPlace 20 = .ok (.iconst 0, 1) := by decide +kernel
theorem dX2_faultPlace_21 : decode cX2_faultPlace 21 = .ok (.ireturn, 1) := by decide +kernel
theorem dX2_faultPlace_22 : decode cX2_faultPlace 22 = .ok (.aload_n 0, 1) := by decide +kernel
theorem dX2_faultPlace_23 : decode cX2_faultPlace 23 = .ok (.getfield 15, 3) := by decide +kernel
theorem dX2_faultPlace_26 : decode cX2_faultPlace 26 = .ok (.iconst 1, 1) := by decide +kernel
theorem dX2_faultPlace_27 : decode cX2_faultPlace 27 = .ok (.if_icmp .eq 25, 3) := by decide +kernel
theorem dX2_faultPlace_30 : decode cX2_faultPlace 30 = .ok (.aload_n 0, 1) := by decide +kernel
theorem dX2_faultPlace_31 : decode cX2_faultPlace 31 = .ok (.getfield 9, 3) := by decide +kernel
theorem dX2_faultPlace_34 : decode cX2_faultPlace 34 = .ok (.iconst 1, 1) := by decide +kernel
theorem dX2_faultPlace_35 : decode cX2_faultPlace 35 = .ok (.iaload, 1) := by decide +kernel
theorem dX2_faultPlace_36 : decode cX2_faultPlace 36 = .ok (.bipush 58, 2) := by decide +kernel
theorem dX2_faultPlace_38 : decode cX2_faultPlace 38 = .ok (.if_icmp .eq 16, 3) := by decide +kernel
theorem dX2_faultPlace_41 : decode cX2_faultPlace 41 = .ok (.aload_n 0, 1) := by decide +kernel
theorem dX2_faultPlace_42 : decode cX2_faultPlace 42 = .ok (.getfield 9, 3) := by decide +kernel
theorem dX2_faultPlace_45 : decode cX2_faultPlace 45 = .ok (.iconst 1, 1) := by decide +kernel
theorem dX2_faultPlace_46 : decode cX2_faultPlace 46 = .ok (.iaload, 1) := by decide +kernel
theorem dX2_faultPlace_47 : decode cX2_faultPlace 47 = .ok (.bipush 46, 2) := by decide +kernel
theorem dX2_faultPlace_49 : decode cX2_faultPlace 49 = .ok (.if_icmp .eq 5, 3) := by decide +kernel
theorem dX2_faultPlace_52 : decode cX2_faultPlace 52 = .ok (.iconst 1, 1) := by decide +kernel
theorem dX2_faultPlace_53 : decode cX2_faultPlace 53 = .ok (.ireturn, 1) := by decide +kernel
theorem dX2_faultPlace_54 : decode cX2_faultPlace 54 = .ok (.aload_n 0, 1) := by decide +kernel
theorem dX2_faultPlace_55 : decode cX2_faultPlace 55 = .ok (.invokevirtual 23, 3) := by decide +kernel
theorem dX2_faultPlace_58 : decode cX2_faultPlace 58 = .ok (.ifCond .eq 18, 3) := by decide +kernel
theorem dX2_faultPlace_61 : decode cX2_faultPlace 61 = .ok (.aload_n 0, 1) := by decide +kernel
theorem dX2_faultPlace_62 : decode cX2_faultPlace 62 = .ok (.getfield 15, 3) := by decide +kernel
theorem dX2_faultPlace_65 : decode cX2_faultPlace 65 = .ok (.iconst 2, 1) := by decide +kernel
theorem dX2_faultPlace_66 : decode cX2_faultPlace 66 = .ok (.if_icmp .ne 8, 3) := by decide +kernel
theorem dX2_faultPlace_69 : decode cX2_faultPlace 69 = .ok (.bipush (-6), 2) := by decide +kernel
theorem dX2_faultPlace_71 : decode cX2_faultPlace 71 = .ok (.goto 4, 3) := by decide +kernel
theorem dX2_faultPlace_74 : decode cX2_faultPlace 74 = .ok (.iconst 2, 1) := by decide +kernel
theorem dX2_faultPlace_75 : decode cX2_faultPlace 75 = .ok (.ireturn, 1) := by decide +kernel
theorem dX2_faultPlace_76 : decode cX2_faultPlace 76 = .ok (.iconst 0, 1) := by decide +kernel
theorem dX2_faultPlace_77 : decode cX2_faultPlace 77 = .ok (.istore_n 2, 1) := by decide +kernel
theorem dX2_faultPlace_78 : decode cX2_faultPlace 78 = .ok (.iconst 2, 1) := by decide +kernel
theorem dX2_faultPlace_79 : decode cX2_faultPlace 79 = .ok (.istore_n 3, 1) := by decide +kernel
theorem dX2_faultPlace_80 : decode cX2_faultPlace 80 = .ok (.iload_n 3, 1) := by decide +kernel
theorem dX2_faultPlace_81 : decode cX2_faultPlace 81 = .ok (.aload_n 0, 1) := by decide +kernel
theorem dX2_faultPlace_82 : decode cX2_faultPlace 82 = .ok (.getfield 15, 3) := by decide +kernel
theorem dX2_faultPlace_85 : decode cX2_faultPlace 85 = .ok (.if_icmp .ge 40, 3) := by decide +kernel
theorem dX2_faultPlace_88 : decode cX2_faultPlace 88 = .ok (.aload_n 0, 1) := by decide +kernel
theorem dX2_faultPlace_89 : decode cX2_faultPlace 89 = .ok (.getfield 9, 3) := by decide +kernel
theorem dX2_faultPlace_92 : decode cX2_faultPlace 92 = .ok (.iload_n 3, 1) := by decide +kernel
theorem dX2_faultPlace_93 : decode cX2_faultPlace 93 = .ok (.iaload, 1) := by decide +kernel
theorem dX2_faultPlace_94 : decode cX2_faultPlace 94 = .ok (.iload_n 1, 1) := by decide +kernel
theorem dX2_faultPlace_95 : decode cX2_faultPlace 95 = .ok (.invokestatic 19, 3) := by decide +kernel
theorem dX2_faultPlace_98 : decode cX2_faultPlace 98 = .ok (.istore 4, 2) := by decide +kernel
theorem dX2_faultPlace_100 : decode cX2_faultPlace 100 = .ok (.iload 4, 2) := by decide +kernel
theorem dX2_faultPlace_102 : decode cX2_faultPlace 102 = .ok (.ifCond .eq 10, 3) := by decide +kernel
theorem dX2_faultPlace_105 : decode cX2_faultPlace 105 = .ok (.iload_n 2, 1) := by decide +kernel
theorem dX2_faultPlace_106 : decode cX2_faultPlace 106 = .ok (.iload 4, 2) := by decide +kernel
theorem dX2_faultPlace_108 : decode cX2_faultPlace 108 = .ok (.iand, 1) := by decide +kernel
theorem dX2_faultPlace_109 : decode cX2_faultPlace 109 = .ok (.ifCond .eq 5, 3) := by decide +kernel
theorem dX2_faultPlace_112 : decode cX2_faultPlace 112 = .ok (.iload_n 3, 1) := by decide +kernel
theorem dX2_faultPlace_113 : decode cX2_faultPlace 113 = .ok (.ireturn, 1) := by decide +kernel
theorem dX2_faultPlace_114 : decode cX2_faultPlace 114 = .ok (.iload_n 2, 1) := by decide +kernel
theorem dX2_faultPlace_115 : decode cX2_faultPlace 115 = .ok (.iload 4, 2) := by decide +kernel
theorem dX2_faultPlace_117 : decode cX2_faultPlace 117 = .ok (.ior, 1) := by decide +kernel
theorem dX2_faultPlace_118 : decode cX2_faultPlace 118 = .ok (.istore_n 2, 1) := by decide +kernel
theorem dX2_faultPlace_119 : decode cX2_faultPlace 119 = .ok (.iinc 3 1, 3) := by decide +kernel
theorem dX2_faultPlace_122 : decode cX2_faultPlace 122 = .ok (.goto (-42), 3) := by decide +kernel
theorem dX2_faultPlace_125 : decode cX2_faultPlace 125 = .ok (.bipush (-6), 2) := by decide +kernel
theorem dX2_faultPlace_127 : decode cX2_faultPlace 127 = .ok (.ireturn, 1) := by decide +kernel
theorem dX2_toldWord_0 : decode cX2_toldWord 0 = .ok (.aload_n 0, 1) := by decide +kernel
theorem dX2_toldWord_1 : decode cX2_toldWord 1 = .ok (.getfield 9, 3) := by decide +kernel
theorem dX2_toldWord_4 : decode cX2_toldWord 4 = .ok (.iconst 0, 1) := by decide +kernel
theorem dX2_toldWord_5 : decode cX2_toldWord 5 = .ok (.iaload, 1) := by decide +kernel
theorem dX2_toldWord_6 : decode cX2_toldWord 6 = .ok (.bipush 97, 2) := by decide +kernel
theorem dX2_toldWord_8 : decode cX2_toldWord 8 = .ok (.isub, 1) := by decide +kernel
theorem dX2_toldWord_9 : decode cX2_toldWord 9 = .ok (.ireturn, 1) := by decide +kernel
theorem dX2_tellsBare_0 : decode cX2_tellsBare 0 = .ok (.aload_n 0, 1) := by decide +kernel
theorem dX2_tellsBare_1 : decode cX2_tellsBare 1 = .ok (.getfield 9, 3) := by decide +kernel
theorem dX2_tellsBare_4 : decode cX2_tellsBare 4 = .ok (.iconst 1, 1) := by decide +kernel
theorem dX2_tellsBare_5 : decode cX2_tellsBare 5 = .ok (.iaload, 1) := by decide +kernel
theorem dX2_tellsBare_6 : decode cX2_tellsBare 6 = .ok (.bipush 46, 2) := by decide +kernel
theorem dX2_tellsBare_8 : decode cX2_tellsBare 8 = .ok (.if_icmp .ne 7, 3) := by decide +kernel
theorem dX2_tellsBare_11 : decode cX2_tellsBare 11 = .ok (.iconst 1, 1) := by decide +kernel
theorem dX2_tellsBare_12 : decode cX2_tellsBare 12 = .ok (.goto 4, 3) := by decide +kernel
theorem dX2_tellsBare_15 : decode cX2_tellsBare 15 = .ok (.iconst 0, 1) := by decide +kernel
theorem dX2_tellsBare_16 : decode cX2_tellsBare 16 = .ok (.ireturn, 1) := by decide +kernel
set_option maxRecDepth 20000 in
theorem ggX2_toldSet_X2_wordBit : GoodIn wsX2_toldSet wsX2_wordBit := goodIn_r _ [6] (by decide +kernel) (by decide +kernel)
set_option maxRecDepth 20000 in
theorem gX2_toldSet_X2_wordBit : GoodIn wsX2_toldSet (va_wsS RX2 19 yX2_wordBit wsX2_wordBit) := goodIn_app (goodIn_of _ (by decide +kernel)) ggX2_toldSet_X2_wordBit
theorem dX2_toldSet_0 : decode cX2_toldSet 0 = .ok (.iconst 0, 1) := by decide +kernel
theorem dX2_toldSet_1 : decode cX2_toldSet 1 = .ok (.istore_n 1, 1) := by decide +kernel
theorem dX2_toldSet_2 : decode cX2_toldSet 2 = .ok (.iconst 2, 1) := by decide +kernel
theorem dX2_toldSet_3 : decode cX2_toldSet 3 = .ok (.istore_n 2, 1) := by decide +kernel
theorem dX2_toldSet_4 : decode cX2_toldSet 4 = .ok (.iload_n 2, 1) := by decide +kernel
theorem dX2_toldSet_5 : decode cX2_toldSet 5 = .ok (.aload_n 0, 1) := by decide +kernel
theorem dX2_toldSet_6 : decode cX2_toldSet 6 = .ok (.getfield 15, 3) := by decide +kernel
theorem dX2_toldSet_9 : decode cX2_toldSet 9 = .ok (.if_icmp .ge 23, 3) := by decide +kernel
theorem dX2_toldSet_12 : decode cX2_toldSet 12 = .ok (.iload_n 1, 1) := by decide +kernel
theorem dX2_toldSet_13 : decode cX2_toldSet 13 = .ok (.aload_n 0, 1) := by decide +kernel
theorem dX2_toldSet_14 : decode cX2_toldSet 14 = .ok (.getfield 9, 3) := by decide +kernel
theorem dX2_toldSet_17 : decode cX2_toldSet 17 = .ok (.iload_n 2, 1) := by decide +kernel
theorem dX2_toldSet_18 : decode cX2_toldSet 18 = .ok (.iaload, 1) := by decide +kernel
theorem dX2_toldSet_19 : decode cX2_toldSet 19 = .ok (.bipush 14, 2) := by decide +kernel
theorem dX2_toldSet_21 : decode cX2_toldSet 21 = .ok (.invokestatic 19, 3) := by decide +kernel
theorem dX2_toldSet_24 : decode cX2_toldSet 24 = .ok (.ior, 1) := by decide +kernel
theorem dX2_toldSet_25 : decode cX2_toldSet 25 = .ok (.istore_n 1, 1) := by decide +kernel
theorem dX2_toldSet_26 : decode cX2_toldSet 26 = .ok (.iinc 2 1, 3) := by decide +kernel
theorem dX2_toldSet_29 : decode cX2_toldSet 29 = .ok (.goto (-25), 3) := by decide +kernel
theorem dX2_toldSet_32 : decode cX2_toldSet 32 = .ok (.iload_n 1, 1) := by decide +kernel
theorem dX2_toldSet_33 : decode cX2_toldSet 33 = .ok (.ireturn, 1) := by decide +kernel
theorem dX2_wordBit_0 : decode cX2_wordBit 0 = .ok (.iload_n 0, 1) := by decide +kernel
theorem dX2_wordBit_1 : decode cX2_wordBit 1 = .ok (.bipush 97, 2) := by decide +kernel
theorem dX2_wordBit_3 : decode cX2_wordBit 3 = .ok (.isub, 1) := by decide +kernel
theorem dX2_wordBit_4 : decode cX2_wordBit 4 = .ok (.istore_n 2, 1) := by decide +kernel
theorem dX2_wordBit_5 : decode cX2_wordBit 5 = .ok (.iload_n 2, 1) := by decide +kernel
theorem dX2_wordBit_6 : decode cX2_wordBit 6 = .ok (.ifCond .lt 14, 3) := by decide +kernel
theorem dX2_wordBit_9 : decode cX2_wordBit 9 = .ok (.iload_n 2, 1) := by decide +kernel
theorem dX2_wordBit_10 : decode cX2_wordBit 10 = .ok (.iload_n 1, 1) := by decide +kernel
theorem dX2_wordBit_11 : decode cX2_wordBit 11 = .ok (.if_icmp .ge 9, 3) := by decide +kernel
theorem dX2_wordBit_14 : decode cX2_wordBit 14 = .ok (.iconst 1, 1) := by decide +kernel
theorem dX2_wordBit_15 : decode cX2_wordBit 15 = .ok (.iload_n 2, 1) := by decide +kernel
theorem dX2_wordBit_16 : decode cX2_wordBit 16 = .ok (.ishl, 1) := by decide +kernel
theorem dX2_wordBit_17 : decode cX2_wordBit 17 = .ok (.goto 4, 3) := by decide +kernel
theorem dX2_wordBit_20 : decode cX2_wordBit 20 = .ok (.iconst 0, 1) := by decide +kernel
theorem dX2_wordBit_21 : decode cX2_wordBit 21 = .ok (.ireturn, 1) := by decide +kernel
theorem dX3_init_0 : decode cX3_init 0 = .ok (.aload_n 0, 1) := by decide +kernel
theorem dX3_init_1 : decode cX3_init 1 = .ok (.invokespecial 3, 3) := by decide +kernel
theorem dX3_init_4 : decode cX3_init 4 = .ok (.aload_n 0, 1) := by decide +kernel
theorem dX3_init_5 : decode cX3_init 5 = .ok (.bipush 8, 2) := by decide +kernel
theorem dX3_init_7 : decode cX3_init 7 = .ok (.putfield 9, 3) := by decide +kernel
theorem dX3_init_10 : decode cX3_init 10 = .ok (.aload_n 0, 1) := by decide +kernel
theorem dX3_init_11 : decode cX3_init 11 = .ok (.iconst 0, 1) := by decide +kernel
theorem dX3_init_12 : decode cX3_init 12 = .ok (.putfield 15, 3) := by decide +kernel
theorem dX3_init_15 : decode cX3_init 15 = .ok (.aload_n 0, 1) := by decide +kernel
theorem dX3_init_16 : decode cX3_init 16 = .ok (.iconst 0, 1) := by decide +kernel
theorem dX3_init_17 : decode cX3_init 17 = .ok (.putfield 18, 3) := by decide +kernel
theorem dX3_init_20 : decode cX3_init 20 = .ok (.aload_n 0, 1) := by decide +kernel
theorem dX3_init_21 : decode cX3_init 21 = .ok (.bipush 14, 2) := by decide +kernel
theorem dX3_init_23 : decode cX3_init 23 = .ok (.newarray .int, 2) := by decide +kernel
theorem dX3_init_25 : decode cX3_init 25 = .ok (.putfield 21, 3) := by decide +kernel
theorem dX3_init_28 : decode cX3_init 28 = .ok (.aload_n 0, 1) := by decide +kernel
theorem dX3_init_29 : decode cX3_init 29 = .ok (.bipush 14, 2) := by decide +kernel
theorem dX3_init_31 : decode cX3_init 31 = .ok (.newarray .int, 2) := by decide +kernel
theorem dX3_init_33 : decode cX3_init 33 = .ok (.putfield 25, 3) := by decide +kernel
theorem dX3_init_36 : decode cX3_init 36 = .ok (.iconst 0, 1) := by decide +kernel
theorem dX3_init_37 : decode cX3_init 37 = .ok (.istore_n 1, 1) := by decide +kernel
theorem dX3_init_38 : decode cX3_init 38 = .ok (.iload_n 1, 1) := by decide +kernel
theorem dX3_init_39 : decode cX3_init 39 = .ok (.bipush 14, 2) := by decide +kernel
theorem dX3_init_41 : decode cX3_init 41 = .ok (.if_icmp .ge 16, 3) := by decide +kernel
theorem dX3_init_44 : decode cX3_init 44 = .ok (.aload_n 0, 1) := by decide +kernel
theorem dX3_init_45 : decode cX3_init 45 = .ok (.getfield 21, 3) := by decide +kernel
theorem dX3_init_48 : decode cX3_init 48 = .ok (.iload_n 1, 1) := by decide +kernel
theorem dX3_init_49 : decode cX3_init 49 = .ok (.iconst 1, 1) := by decide +kernel
theorem dX3_init_50 : decode cX3_init 50 = .ok (.iastore, 1) := by decide +kernel
theorem dX3_init_51 : decode cX3_init 51 = .ok (.iinc 1 1, 3) := by decide +kernel
theorem dX3_init_54 : decode cX3_init 54 = .ok (.goto (-16), 3) := by decide +kernel
theorem dX3_init_57 : decode cX3_init 57 = .ok (.return_, 1) := by decide +kernel
theorem dX3_all_0 : decode cX3_all 0 = .ok (.iconst 1, 1) := by decide +kernel
theorem dX3_all_1 : decode cX3_all 1 = .ok (.aload_n 0, 1) := by decide +kernel
theorem dX3_all_2 : decode cX3_all 2 = .ok (.getfield 9, 3) := by decide +kernel
theorem dX3_all_5 : decode cX3_all 5 = .ok (.ishl, 1) := by decide +kernel
theorem dX3_all_6 : decode cX3_all 6 = .ok (.iconst 1, 1) := by decide +kernel
theorem dX3_all_7 : decode cX3_all 7 = .ok (.isub, 1) := by decide +kernel
theorem dX3_all_8 : decode cX3_all 8 = .ok (.ireturn, 1) := by decide +kernel
theorem dX3_has_0 : decode cX3_has 0 = .ok (.iload_n 1, 1) := by decide +kernel
theorem dX3_has_1 : decode cX3_has 1 = .ok (.ifCond .lt 15, 3) := by decide +kernel
theorem dX3_has_4 : decode cX3_has 4 = .ok (.iload_n 1, 1) := by decide +kernel
theorem dX3_has_5 : decode cX3_has 5 = .ok (.aload_n 0, 1) := by decide +kernel
theorem dX3_has_6 : decode cX3_has 6 = .ok (.getfield 9, 3) := by decide +kernel
theorem dX3_has_9 : decode cX3_has 9 = .ok (.if_icmp .ge 7, 3) := by decide +kernel
theorem dX3_has_12 : decode cX3_has 12 = .ok (.iconst 1, 1) := by decide +kernel
theorem dX3_has_13 : decode cX3_has 13 = .ok (.goto 4, 3) := by decide +kernel
theorem dX3_has_16 : decode cX3_has 16 = .ok (.iconst 0, 1) := by decide +kernel
