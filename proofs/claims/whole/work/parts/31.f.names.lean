theorem dX5_image_41 : decode cX5_image 41 = .ok (.istore_n 2, 1) := by decide +kernel
theorem dX5_image_42 : decode cX5_image 42 = .ok (.iload_n 2, 1) := by decide +kernel
theorem dX5_image_43 : decode cX5_image 43 = .ok (.bipush 14, 2) := by decide +kernel
theorem dX5_image_45 : decode cX5_image 45 = .ok (.if_icmp .ge 48, 3) := by decide +kernel
theorem dX5_image_48 : decode cX5_image 48 = .ok (.aload_n 0, 1) := by decide +kernel
theorem dX5_image_49 : decode cX5_image 49 = .ok (.getfield 30, 3) := by decide +kernel
theorem dX5_image_52 : decode cX5_image 52 = .ok (.bipush 30, 2) := by decide +kernel
theorem dX5_image_54 : decode cX5_image 54 = .ok (.iload_n 1, 1) := by decide +kernel
theorem dX5_image_55 : decode cX5_image 55 = .ok (.imul, 1) := by decide +kernel
theorem dX5_image_56 : decode cX5_image 56 = .ok (.iconst 2, 1) := by decide +kernel
theorem dX5_image_57 : decode cX5_image 57 = .ok (.iadd, 1) := by decide +kernel
theorem dX5_image_58 : decode cX5_image 58 = .ok (.iload_n 2, 1) := by decide +kernel
theorem dX5_image_59 : decode cX5_image 59 = .ok (.iadd, 1) := by decide +kernel
theorem dX5_image_60 : decode cX5_image 60 = .ok (.aload_n 0, 1) := by decide +kernel
theorem dX5_image_61 : decode cX5_image 61 = .ok (.getfield 13, 3) := by decide +kernel
theorem dX5_image_64 : decode cX5_image 64 = .ok (.iload_n 2, 1) := by decide +kernel
theorem dX5_image_65 : decode cX5_image 65 = .ok (.iaload, 1) := by decide +kernel
theorem dX5_image_66 : decode cX5_image 66 = .ok (.iastore, 1) := by decide +kernel
theorem dX5_image_67 : decode cX5_image 67 = .ok (.aload_n 0, 1) := by decide +kernel
theorem dX5_image_68 : decode cX5_image 68 = .ok (.getfield 30, 3) := by decide +kernel
theorem dX5_image_71 : decode cX5_image 71 = .ok (.bipush 30, 2) := by decide +kernel
theorem dX5_image_73 : decode cX5_image 73 = .ok (.iload_n 1, 1) := by decide +kernel
theorem dX5_image_74 : decode cX5_image 74 = .ok (.imul, 1) := by decide +kernel
theorem dX5_image_75 : decode cX5_image 75 = .ok (.bipush 16, 2) := by decide +kernel
theorem dX5_image_77 : decode cX5_image 77 = .ok (.iadd, 1) := by decide +kernel
theorem dX5_image_78 : decode cX5_image 78 = .ok (.iload_n 2, 1) := by decide +kernel
theorem dX5_image_79 : decode cX5_image 79 = .ok (.iadd, 1) := by decide +kernel
theorem dX5_image_80 : decode cX5_image 80 = .ok (.aload_n 0, 1) := by decide +kernel
theorem dX5_image_81 : decode cX5_image 81 = .ok (.getfield 17, 3) := by decide +kernel
theorem dX5_image_84 : decode cX5_image 84 = .ok (.iload_n 2, 1) := by decide +kernel
theorem dX5_image_85 : decode cX5_image 85 = .ok (.iaload, 1) := by decide +kernel
theorem dX5_image_86 : decode cX5_image 86 = .ok (.iastore, 1) := by decide +kernel
theorem dX5_image_87 : decode cX5_image 87 = .ok (.iinc 2 1, 3) := by decide +kernel
theorem dX5_image_90 : decode cX5_image 90 = .ok (.goto (-48), 3) := by decide +kernel
theorem dX5_image_93 : decode cX5_image 93 = .ok (.aload_n 0, 1) := by decide +kernel
theorem dX5_image_94 : decode cX5_image 94 = .ok (.getfield 33, 3) := by decide +kernel
theorem dX5_image_97 : decode cX5_image 97 = .ok (.iload_n 1, 1) := by decide +kernel
theorem dX5_image_98 : decode cX5_image 98 = .ok (.iconst 1, 1) := by decide +kernel
theorem dX5_image_99 : decode cX5_image 99 = .ok (.bastore, 1) := by decide +kernel
theorem dX5_image_100 : decode cX5_image 100 = .ok (.iconst 1, 1) := by decide +kernel
theorem dX5_image_101 : decode cX5_image 101 = .ok (.ireturn, 1) := by decide +kernel
set_option maxRecDepth 20000 in
theorem ggX5_restore_X5_in : GoodIn wsX5_restore wsX5_in := goodIn_r _ [10] (by decide +kernel) (by decide +kernel)
set_option maxRecDepth 20000 in
theorem gX5_restore_X5_in : GoodIn wsX5_restore (va_wsS RX5 36 yX5_in wsX5_in) := goodIn_app (goodIn_of _ (by decide +kernel)) ggX5_restore_X5_in
theorem dX5_restore_0 : decode cX5_restore 0 = .ok (.iload_n 1, 1) := by decide +kernel
theorem dX5_restore_1 : decode cX5_restore 1 = .ok (.iconst 0, 1) := by decide +kernel
theorem dX5_restore_2 : decode cX5_restore 2 = .ok (.iconst 1, 1) := by decide +kernel
theorem dX5_restore_3 : decode cX5_restore 3 = .ok (.invokestatic 36, 3) := by decide +kernel
theorem dX5_restore_6 : decode cX5_restore 6 = .ok (.ifCond .ne 6, 3) := by decide +kernel
theorem dX5_restore_9 : decode cX5_restore 9 = .ok (.bipush (-2), 2) := by decide +kernel
theorem dX5_restore_11 : decode cX5_restore 11 = .ok (.ireturn, 1) := by decide +kernel
theorem dX5_restore_12 : decode cX5_restore 12 = .ok (.aload_n 0, 1) := by decide +kernel
theorem dX5_restore_13 : decode cX5_restore 13 = .ok (.getfield 33, 3) := by decide +kernel
theorem dX5_restore_16 : decode cX5_restore 16 = .ok (.iload_n 1, 1) := by decide +kernel
theorem dX5_restore_17 : decode cX5_restore 17 = .ok (.baload, 1) := by decide +kernel
theorem dX5_restore_18 : decode cX5_restore 18 = .ok (.ifCond .ne 6, 3) := by decide +kernel
theorem dX5_restore_21 : decode cX5_restore 21 = .ok (.bipush (-3), 2) := by decide +kernel
theorem dX5_restore_23 : decode cX5_restore 23 = .ok (.ireturn, 1) := by decide +kernel
theorem dX5_restore_24 : decode cX5_restore 24 = .ok (.aload_n 0, 1) := by decide +kernel
theorem dX5_restore_25 : decode cX5_restore 25 = .ok (.aload_n 0, 1) := by decide +kernel
theorem dX5_restore_26 : decode cX5_restore 26 = .ok (.getfield 30, 3) := by decide +kernel
theorem dX5_restore_29 : decode cX5_restore 29 = .ok (.bipush 30, 2) := by decide +kernel
theorem dX5_restore_31 : decode cX5_restore 31 = .ok (.iload_n 1, 1) := by decide +kernel
theorem dX5_restore_32 : decode cX5_restore 32 = .ok (.imul, 1) := by decide +kernel
theorem dX5_restore_33 : decode cX5_restore 33 = .ok (.iaload, 1) := by decide +kernel
theorem dX5_restore_34 : decode cX5_restore 34 = .ok (.putfield 7, 3) := by decide +kernel
theorem dX5_restore_37 : decode cX5_restore 37 = .ok (.aload_n 0, 1) := by decide +kernel
theorem dX5_restore_38 : decode cX5_restore 38 = .ok (.aload_n 0, 1) := by decide +kernel
theorem dX5_restore_39 : decode cX5_restore 39 = .ok (.getfield 30, 3) := by decide +kernel
theorem dX5_restore_42 : decode cX5_restore 42 = .ok (.bipush 30, 2) := by decide +kernel
theorem dX5_restore_44 : decode cX5_restore 44 = .ok (.iload_n 1, 1) := by decide +kernel
theorem dX5_restore_45 : decode cX5_restore 45 = .ok (.imul, 1) := by decide +kernel
theorem dX5_restore_46 : decode cX5_restore 46 = .ok (.iconst 1, 1) := by decide +kernel
theorem dX5_restore_47 : decode cX5_restore 47 = .ok (.iadd, 1) := by decide +kernel
theorem dX5_restore_48 : decode cX5_restore 48 = .ok (.iaload, 1) := by decide +kernel
theorem dX5_restore_49 : decode cX5_restore 49 = .ok (.putfield 44, 3) := by decide +kernel
theorem dX5_restore_52 : decode cX5_restore 52 = .ok (.iconst 0, 1) := by decide +kernel
theorem dX5_restore_53 : decode cX5_restore 53 = .ok (.istore_n 2, 1) := by decide +kernel
theorem dX5_restore_54 : decode cX5_restore 54 = .ok (.iload_n 2, 1) := by decide +kernel
theorem dX5_restore_55 : decode cX5_restore 55 = .ok (.bipush 14, 2) := by decide +kernel
theorem dX5_restore_57 : decode cX5_restore 57 = .ok (.if_icmp .ge 48, 3) := by decide +kernel
theorem dX5_restore_60 : decode cX5_restore 60 = .ok (.aload_n 0, 1) := by decide +kernel
theorem dX5_restore_61 : decode cX5_restore 61 = .ok (.getfield 13, 3) := by decide +kernel
theorem dX5_restore_64 : decode cX5_restore 64 = .ok (.iload_n 2, 1) := by decide +kernel
theorem dX5_restore_65 : decode cX5_restore 65 = .ok (.aload_n 0, 1) := by decide +kernel
theorem dX5_restore_66 : decode cX5_restore 66 = .ok (.getfield 30, 3) := by decide +kernel
theorem dX5_restore_69 : decode cX5_restore 69 = .ok (.bipush 30, 2) := by decide +kernel
theorem dX5_restore_71 : decode cX5_restore 71 = .ok (.iload_n 1, 1) := by decide +kernel
theorem dX5_restore_72 : decode cX5_restore 72 = .ok (.imul, 1) := by decide +kernel
theorem dX5_restore_73 : decode cX5_restore 73 = .ok (.iconst 2, 1) := by decide +kernel
theorem dX5_restore_74 : decode cX5_restore 74 = .ok (.iadd, 1) := by decide +kernel
theorem dX5_restore_75 : decode cX5_restore 75 = .ok (.iload_n 2, 1) := by decide +kernel
theorem dX5_restore_76 : decode cX5_restore 76 = .ok (.iadd, 1) := by decide +kernel
theorem dX5_restore_77 : decode cX5_restore 77 = .ok (.iaload, 1) := by decide +kernel
theorem dX5_restore_78 : decode cX5_restore 78 = .ok (.iastore, 1) := by decide +kernel
theorem dX5_restore_79 : decode cX5_restore 79 = .ok (.aload_n 0, 1) := by decide +kernel
theorem dX5_restore_80 : decode cX5_restore 80 = .ok (.getfield 17, 3) := by decide +kernel
theorem dX5_restore_83 : decode cX5_restore 83 = .ok (.iload_n 2, 1) := by decide +kernel
theorem dX5_restore_84 : decode cX5_restore 84 = .ok (.aload_n 0, 1) := by decide +kernel
theorem dX5_restore_85 : decode cX5_restore 85 = .ok (.getfield 30, 3) := by decide +kernel
theorem dX5_restore_88 : decode cX5_restore 88 = .ok (.bipush 30, 2) := by decide +kernel
theorem dX5_restore_90 : decode cX5_restore 90 = .ok (.iload_n 1, 1) := by decide +kernel
theorem dX5_restore_91 : decode cX5_restore 91 = .ok (.imul, 1) := by decide +kernel
theorem dX5_restore_92 : decode cX5_restore 92 = .ok (.bipush 16, 2) := by decide +kernel
theorem dX5_restore_94 : decode cX5_restore 94 = .ok (.iadd, 1) := by decide +kernel
theorem dX5_restore_95 : decode cX5_restore 95 = .ok (.iload_n 2, 1) := by decide +kernel
theorem dX5_restore_96 : decode cX5_restore 96 = .ok (.iadd, 1) := by decide +kernel
theorem dX5_restore_97 : decode cX5_restore 97 = .ok (.iaload, 1) := by decide +kernel
theorem dX5_restore_98 : decode cX5_restore 98 = .ok (.iastore, 1) := by decide +kernel
theorem dX5_restore_99 : decode cX5_restore 99 = .ok (.iinc 2 1, 3) := by decide +kernel
theorem dX5_restore_102 : decode cX5_restore 102 = .ok (.goto (-48), 3) := by decide +kernel
theorem dX5_restore_105 : decode cX5_restore 105 = .ok (.iconst 1, 1) := by decide +kernel
theorem dX5_restore_106 : decode cX5_restore 106 = .ok (.ireturn, 1) := by decide +kernel
set_option maxRecDepth 20000 in
theorem ggX5_count_X5_in : GoodIn wsX5_count wsX5_in := goodIn_r _ [11] (by decide +kernel) (by decide +kernel)
set_option maxRecDepth 20000 in
theorem gX5_count_X5_in : GoodIn wsX5_count (va_wsS RX5 36 yX5_in wsX5_in) := goodIn_app (goodIn_of _ (by decide +kernel)) ggX5_count_X5_in
set_option maxRecDepth 20000 in
theorem ggX5_count_X5_bits : GoodIn wsX5_count wsX5_bits := goodIn_r _ [14] (by decide +kernel) (by decide +kernel)
set_option maxRecDepth 20000 in
theorem gX5_count_X5_bits : GoodIn wsX5_count (va_wsS RX5 68 yX5_bits wsX5_bits) := goodIn_app (goodIn_of _ (by decide +kernel)) ggX5_count_X5_bits
theorem dX5_count_0 : decode cX5_count 0 = .ok (.iload_n 1, 1) := by decide +kernel
theorem dX5_count_1 : decode cX5_count 1 = .ok (.bipush 10, 2) := by decide +kernel
theorem dX5_count_3 : decode cX5_count 3 = .ok (.bipush 9, 2) := by decide +kernel
theorem dX5_count_5 : decode cX5_count 5 = .ok (.aload_n 0, 1) := by decide +kernel
theorem dX5_count_6 : decode cX5_count 6 = .ok (.getfield 7, 3) := by decide +kernel
theorem dX5_count_9 : decode cX5_count 9 = .ok (.iadd, 1) := by decide +kernel
theorem dX5_count_10 : decode cX5_count 10 = .ok (.invokestatic 36, 3) := by decide +kernel
theorem dX5_count_13 : decode cX5_count 13 = .ok (.ifCond .eq 13, 3) := by decide +kernel
theorem dX5_count_16 : decode cX5_count 16 = .ok (.aload_n 0, 1) := by decide +kernel
theorem dX5_count_17 : decode cX5_count 17 = .ok (.getfield 17, 3) := by decide +kernel
theorem dX5_count_20 : decode cX5_count 20 = .ok (.iload_n 1, 1) := by decide +kernel
theorem dX5_count_21 : decode cX5_count 21 = .ok (.bipush 10, 2) := by decide +kernel
theorem dX5_count_23 : decode cX5_count 23 = .ok (.isub, 1) := by decide +kernel
theorem dX5_count_24 : decode cX5_count 24 = .ok (.iaload, 1) := by decide +kernel
theorem dX5_count_25 : decode cX5_count 25 = .ok (.ireturn, 1) := by decide +kernel
theorem dX5_count_26 : decode cX5_count 26 = .ok (.iconst 0, 1) := by decide +kernel
theorem dX5_count_27 : decode cX5_count 27 = .ok (.istore_n 2, 1) := by decide +kernel
theorem dX5_count_28 : decode cX5_count 28 = .ok (.iconst 0, 1) := by decide +kernel
theorem dX5_count_29 : decode cX5_count 29 = .ok (.istore_n 3, 1) := by decide +kernel
theorem dX5_count_30 : decode cX5_count 30 = .ok (.iconst 0, 1) := by decide +kernel
theorem dX5_count_31 : decode cX5_count 31 = .ok (.istore 4, 2) := by decide +kernel
theorem dX5_count_33 : decode cX5_count 33 = .ok (.iload 4, 2) := by decide +kernel
theorem dX5_count_35 : decode cX5_count 35 = .ok (.aload_n 0, 1) := by decide +kernel
theorem dX5_count_36 : decode cX5_count 36 = .ok (.getfield 7, 3) := by decide +kernel
theorem dX5_count_39 : decode cX5_count 39 = .ok (.if_icmp .ge 54, 3) := by decide +kernel
theorem dX5_count_42 : decode cX5_count 42 = .ok (.iload_n 2, 1) := by decide +kernel
theorem dX5_count_43 : decode cX5_count 43 = .ok (.aload_n 0, 1) := by decide +kernel
theorem dX5_count_44 : decode cX5_count 44 = .ok (.getfield 13, 3) := by decide +kernel
theorem dX5_count_47 : decode cX5_count 47 = .ok (.iload 4, 2) := by decide +kernel
theorem dX5_count_49 : decode cX5_count 49 = .ok (.iaload, 1) := by decide +kernel
theorem dX5_count_50 : decode cX5_count 50 = .ok (.ifCond .lt 7, 3) := by decide +kernel
theorem dX5_count_53 : decode cX5_count 53 = .ok (.iconst 1, 1) := by decide +kernel
theorem dX5_count_54 : decode cX5_count 54 = .ok (.goto 4, 3) := by decide +kernel
theorem dX5_count_57 : decode cX5_count 57 = .ok (.iconst 0, 1) := by decide +kernel
theorem dX5_count_58 : decode cX5_count 58 = .ok (.iadd, 1) := by decide +kernel
theorem dX5_count_59 : decode cX5_count 59 = .ok (.istore_n 2, 1) := by decide +kernel
theorem dX5_count_60 : decode cX5_count 60 = .ok (.iload_n 3, 1) := by decide +kernel
theorem dX5_count_61 : decode cX5_count 61 = .ok (.aload_n 0, 1) := by decide +kernel
theorem dX5_count_62 : decode cX5_count 62 = .ok (.getfield 13, 3) := by decide +kernel
theorem dX5_count_65 : decode cX5_count 65 = .ok (.iload 4, 2) := by decide +kernel
theorem dX5_count_67 : decode cX5_count 67 = .ok (.iaload, 1) := by decide +kernel
theorem dX5_count_68 : decode cX5_count 68 = .ok (.ifCond .lt 16, 3) := by decide +kernel
theorem dX5_count_71 : decode cX5_count 71 = .ok (.aload_n 0, 1) := by decide +kernel
theorem dX5_count_72 : decode cX5_count 72 = .ok (.getfield 13, 3) := by decide +kernel
theorem dX5_count_75 : decode cX5_count 75 = .ok (.iload 4, 2) := by decide +kernel
theorem dX5_count_77 : decode cX5_count 77 = .ok (.iaload, 1) := by decide +kernel
theorem dX5_count_78 : decode cX5_count 78 = .ok (.invokestatic 68, 3) := by decide +kernel
theorem dX5_count_81 : decode cX5_count 81 = .ok (.goto 4, 3) := by decide +kernel
theorem dX5_count_84 : decode cX5_count 84 = .ok (.iconst 0, 1) := by decide +kernel
theorem dX5_count_85 : decode cX5_count 85 = .ok (.iadd, 1) := by decide +kernel
theorem dX5_count_86 : decode cX5_count 86 = .ok (.istore_n 3, 1) := by decide +kernel
theorem dX5_count_87 : decode cX5_count 87 = .ok (.iinc 4 1, 3) := by decide +kernel
theorem dX5_count_90 : decode cX5_count 90 = .ok (.goto (-57), 3) := by decide +kernel
theorem dX5_count_93 : decode cX5_count 93 = .ok (.iload_n 1, 1) := by decide +kernel
theorem dX5_count_94 : decode cX5_count 94 = .ok (.tableswitch 96 0 6 #[42, 47, 52, 54, 56, 61, 66], 42) := by decide +kernel
theorem dX5_count_136 : decode cX5_count 136 = .ok (.aload_n 0, 1) := by decide +kernel
theorem dX5_count_137 : decode cX5_count 137 = .ok (.getfield 7, 3) := by decide +kernel
theorem dX5_count_140 : decode cX5_count 140 = .ok (.ireturn, 1) := by decide +kernel
theorem dX5_count_141 : decode cX5_count 141 = .ok (.aload_n 0, 1) := by decide +kernel
theorem dX5_count_142 : decode cX5_count 142 = .ok (.getfield 44, 3) := by decide +kernel
theorem dX5_count_145 : decode cX5_count 145 = .ok (.ireturn, 1) := by decide +kernel
theorem dX5_count_146 : decode cX5_count 146 = .ok (.iload_n 2, 1) := by decide +kernel
theorem dX5_count_147 : decode cX5_count 147 = .ok (.ireturn, 1) := by decide +kernel
theorem dX5_count_148 : decode cX5_count 148 = .ok (.iload_n 3, 1) := by decide +kernel
theorem dX5_count_149 : decode cX5_count 149 = .ok (.ireturn, 1) := by decide +kernel
theorem dX5_count_150 : decode cX5_count 150 = .ok (.aload_n 0, 1) := by decide +kernel
theorem dX5_count_151 : decode cX5_count 151 = .ok (.getfield 47, 3) := by decide +kernel
theorem dX5_count_154 : decode cX5_count 154 = .ok (.ireturn, 1) := by decide +kernel
theorem dX5_count_155 : decode cX5_count 155 = .ok (.aload_n 0, 1) := by decide +kernel
theorem dX5_count_156 : decode cX5_count 156 = .ok (.getfield 23, 3) := by decide +kernel
theorem dX5_count_159 : decode cX5_count 159 = .ok (.ireturn, 1) := by decide +kernel
theorem dX5_count_160 : decode cX5_count 160 = .ok (.aload_n 0, 1) := by decide +kernel
theorem dX5_count_161 : decode cX5_count 161 = .ok (.getfield 33, 3) := by decide +kernel
theorem dX5_count_164 : decode cX5_count 164 = .ok (.iconst 0, 1) := by decide +kernel
theorem dX5_count_165 : decode cX5_count 165 = .ok (.baload, 1) := by decide +kernel
theorem dX5_count_166 : decode cX5_count 166 = .ok (.ifCond .eq 7, 3) := by decide +kernel
theorem dX5_count_169 : decode cX5_count 169 = .ok (.iconst 1, 1) := by decide +kernel
theorem dX5_count_170 : decode cX5_count 170 = .ok (.goto 4, 3) := by decide +kernel
theorem dX5_count_173 : decode cX5_count 173 = .ok (.iconst 0, 1) := by decide +kernel
theorem dX5_count_174 : decode cX5_count 174 = .ok (.aload_n 0, 1) := by decide +kernel
theorem dX5_count_175 : decode cX5_count 175 = .ok (.getfield 33, 3) := by decide +kernel
theorem dX5_count_178 : decode cX5_count 178 = .ok (.iconst 1, 1) := by decide +kernel
theorem dX5_count_179 : decode cX5_count 179 = .ok (.baload, 1) := by decide +kernel
theorem dX5_count_180 : decode cX5_count 180 = .ok (.ifCond .eq 7, 3) := by decide +kernel
theorem dX5_count_183 : decode cX5_count 183 = .ok (.iconst 2, 1) := by decide +kernel
theorem dX5_count_184 : decode cX5_count 184 = .ok (.goto 4, 3) := by decide +kernel
theorem dX5_count_187 : decode cX5_count 187 = .ok (.iconst 0, 1) := by decide +kernel
theorem dX5_count_188 : decode cX5_count 188 = .ok (.iadd, 1) := by decide +kernel
theorem dX5_count_189 : decode cX5_count 189 = .ok (.ireturn, 1) := by decide +kernel
theorem dX5_count_190 : decode cX5_count 190 = .ok (.bipush (-2), 2) := by decide +kernel
theorem dX5_count_192 : decode cX5_count 192 = .ok (.ireturn, 1) := by decide +kernel
theorem dJ6_bitCount_0f7a4_0 : decode cJ6_bitCount_0f7a4 0 = .ok (.iload_n 0, 1) := by decide +kernel
theorem dJ6_bitCount_0f7a4_1 : decode cJ6_bitCount_0f7a4 1 = .ok (.iload_n 0, 1) := by decide +kernel
theorem dJ6_bitCount_0f7a4_2 : decode cJ6_bitCount_0f7a4 2 = .ok (.iconst 1, 1) := by decide +kernel
theorem dJ6_bitCount_0f7a4_3 : decode cJ6_bitCount_0f7a4 3 = .ok (.iushr, 1) := by decide +kernel
theorem dJ6_bitCount_0f7a4_4 : decode cJ6_bitCount_0f7a4 4 = .ok (.ldc_w 265, 3) := by decide +kernel
theorem dJ6_bitCount_0f7a4_7 : decode cJ6_bitCount_0f7a4 7 = .ok (.iand, 1) := by decide +kernel
theorem dJ6_bitCount_0f7a4_8 : decode cJ6_bitCount_0f7a4 8 = .ok (.isub, 1) := by decide +kernel
theorem dJ6_bitCount_0f7a4_9 : decode cJ6_bitCount_0f7a4 9 = .ok (.istore_n 0, 1) := by decide +kernel
theorem dJ6_bitCount_0f7a4_10 : decode cJ6_bitCount_0f7a4 10 = .ok (.iload_n 0, 1) := by decide +kernel
theorem dJ6_bitCount_0f7a4_11 : decode cJ6_bitCount_0f7a4 11 = .ok (.ldc_w 266, 3) := by decide +kernel
theorem dJ6_bitCount_0f7a4_14 : decode cJ6_bitCount_0f7a4 14 = .ok (.iand, 1) := by decide +kernel
theorem dJ6_bitCount_0f7a4_15 : decode cJ6_bitCount_0f7a4 15 = .ok (.iload_n 0, 1) := by decide +kernel
theorem dJ6_bitCount_0f7a4_16 : decode cJ6_bitCount_0f7a4 16 = .ok (.iconst 2, 1) := by decide +kernel
theorem dJ6_bitCount_0f7a4_17 : decode cJ6_bitCount_0f7a4 17 = .ok (.iushr, 1) := by decide +kernel
theorem dJ6_bitCount_0f7a4_18 : decode cJ6_bitCount_0f7a4 18 = .ok (.ldc_w 266, 3) := by decide +kernel
theorem dJ6_bitCount_0f7a4_21 : decode cJ6_bitCount_0f7a4 21 = .ok (.iand, 1) := by decide +kernel
theorem dJ6_bitCount_0f7a4_22 : decode cJ6_bitCount_0f7a4 22 = .ok (.iadd, 1) := by decide +kernel
theorem dJ6_bitCount_0f7a4_23 : decode cJ6_bitCount_0f7a4 23 = .ok (.istore_n 0, 1) := by decide +kernel
theorem dJ6_bitCount_0f7a4_24 : decode cJ6_bitCount_0f7a4 24 = .ok (.iload_n 0, 1) := by decide +kernel
theorem dJ6_bitCount_0f7a4_25 : decode cJ6_bitCount_0f7a4 25 = .ok (.iload_n 0, 1) := by decide +kernel
theorem dJ6_bitCount_0f7a4_26 : decode cJ6_bitCount_0f7a4 26 = .ok (.iconst 4, 1) := by decide +kernel
theorem dJ6_bitCount_0f7a4_27 : decode cJ6_bitCount_0f7a4 27 = .ok (.iushr, 1) := by decide +kernel
theorem dJ6_bitCount_0f7a4_28 : decode cJ6_bitCount_0f7a4 28 = .ok (.iadd, 1) := by decide +kernel
theorem dJ6_bitCount_0f7a4_29 : decode cJ6_bitCount_0f7a4 29 = .ok (.ldc_w 267, 3) := by decide +kernel
theorem dJ6_bitCount_0f7a4_32 : decode cJ6_bitCount_0f7a4 32 = .ok (.iand, 1) := by decide +kernel
theorem dJ6_bitCount_0f7a4_33 : decode cJ6_bitCount_0f7a4 33 = .ok (.istore_n 0, 1) := by decide +kernel
theorem dJ6_bitCount_0f7a4_34 : decode cJ6_bitCount_0f7a4 34 = .ok (.iload_n 0, 1) := by decide +kernel
theorem dJ6_bitCount_0f7a4_35 : decode cJ6_bitCount_0f7a4 35 = .ok (.iload_n 0, 1) := by decide +kernel
theorem dJ6_bitCount_0f7a4_36 : decode cJ6_bitCount_0f7a4 36 = .ok (.bipush 8, 2) := by decide +kernel
theorem dJ6_bitCount_0f7a4_38 : decode cJ6_bitCount_0f7a4 38 = .ok (.iushr, 1) := by decide +kernel
theorem dJ6_bitCount_0f7a4_39 : decode cJ6_bitCount_0f7a4 39 = .ok (.iadd, 1) := by decide +kernel
theorem dJ6_bitCount_0f7a4_40 : decode cJ6_bitCount_0f7a4 40 = .ok (.istore_n 0, 1) := by decide +kernel
theorem dJ6_bitCount_0f7a4_41 : decode cJ6_bitCount_0f7a4 41 = .ok (.iload_n 0, 1) := by decide +kernel
theorem dJ6_bitCount_0f7a4_42 : decode cJ6_bitCount_0f7a4 42 = .ok (.iload_n 0, 1) := by decide +kernel
theorem dJ6_bitCount_0f7a4_43 : decode cJ6_bitCount_0f7a4 43 = .ok (.bipush 16, 2) := by decide +kernel
theorem dJ6_bitCount_0f7a4_45 : decode cJ6_bitCount_0f7a4 45 = .ok (.iushr, 1) := by decide +kernel
theorem dJ6_bitCount_0f7a4_46 : decode cJ6_bitCount_0f7a4 46 = .ok (.iadd, 1) := by decide +kernel
theorem dJ6_bitCount_0f7a4_47 : decode cJ6_bitCount_0f7a4 47 = .ok (.istore_n 0, 1) := by decide +kernel
theorem dJ6_bitCount_0f7a4_48 : decode cJ6_bitCount_0f7a4 48 = .ok (.iload_n 0, 1) := by decide +kernel
theorem dJ6_bitCount_0f7a4_49 : decode cJ6_bitCount_0f7a4 49 = .ok (.bipush 63, 2) := by decide +kernel
theorem dJ6_bitCount_0f7a4_51 : decode cJ6_bitCount_0f7a4 51 = .ok (.iand, 1) := by decide +kernel
theorem dJ6_bitCount_0f7a4_52 : decode cJ6_bitCount_0f7a4 52 = .ok (.ireturn, 1) := by decide +kernel
set_option maxRecDepth 20000 in
theorem ggL_law_X4_init : GoodIn wsL_law wsX4_init := goodIn_r _ [8, 9, 10, 11, 12, 13, 14, 15, 16, 17, 18, 19, 20, 21, 22, 23, 24, 25, 26, 27, 28, 29, 30, 31, 32, 33, 34, 35, 36, 37, 38, 39, 40, 41, 42, 43, 44, 45, 46, 47, 48, 49, 50, 51, 52, 53, 54, 55, 56, 57, 58, 488, 489, 490, 491, 492, 470, 471, 472, 473, 474, 475, 476, 477, 493, 494, 495, 496, 497, 498, 499, 500] (by decide +kernel) (by decide +kernel)
set_option maxRecDepth 20000 in
theorem gL_law_X4_init : GoodIn wsL_law (wsX4_init) := ggL_law_X4_init
set_option maxRecDepth 20000 in
theorem ggL_law_X5_init : GoodIn wsL_law wsX5_init := goodIn_r _ [61, 62, 10, 11, 63, 38, 64, 65, 66, 67, 68, 69, 70, 71, 478, 479, 480, 481, 482, 483, 484, 485, 486, 487] (by decide +kernel) (by decide +kernel)
set_option maxRecDepth 20000 in
theorem gL_law_X5_init : GoodIn wsL_law (wsX5_init) := ggL_law_X5_init
set_option maxRecDepth 20000 in
theorem ggL_law_X4_size : GoodIn wsL_law wsX4_size := goodIn_r _ [75, 15, 31, 76, 14, 77, 78, 35, 36, 40, 39, 79, 80, 81, 82, 83, 84, 85, 86, 37, 470, 471, 472, 473, 474, 475, 476, 477, 488, 489, 490, 491, 492] (by decide +kernel) (by decide +kernel)
set_option maxRecDepth 20000 in
theorem gL_law_X4_size : GoodIn wsL_law (wsV RL 13 RX4 yX4_size wsX4_size) := goodIn_app (goodIn_of _ (by decide +kernel)) ggL_law_X4_size
set_option maxRecDepth 20000 in
theorem ggL_law_X5_size : GoodIn wsL_law wsX5_size := goodIn_r _ [90, 63, 64, 65, 91, 92, 93, 5, 94, 95, 96, 97, 98, 478, 479, 480, 481, 482, 483, 484, 485, 486, 487] (by decide +kernel) (by decide +kernel)
set_option maxRecDepth 20000 in
theorem gL_law_X5_size : GoodIn wsL_law (wsV RL 17 RX5 yX5_size wsX5_size) := goodIn_app (goodIn_of _ (by decide +kernel)) ggL_law_X5_size
set_option maxRecDepth 20000 in
theorem ggL_law_X4_say : GoodIn wsL_law wsX4_say := goodIn_r _ [102, 20, 103, 19, 104, 105, 45, 44, 470, 471, 472, 473, 474, 475, 476, 477, 493, 494] (by decide +kernel) (by decide +kernel)
set_option maxRecDepth 20000 in
theorem gL_law_X4_say : GoodIn wsL_law (wsV RL 18 RX4 yX4_say wsX4_say) := goodIn_app (goodIn_of _ (by decide +kernel)) ggL_law_X4_say
set_option maxRecDepth 20000 in
theorem ggL_law_X5_say : GoodIn wsL_law wsX5_say := goodIn_r _ [109, 110, 66, 92, 93, 5, 94, 478, 479, 480, 481, 482, 483, 484, 485, 486, 487] (by decide +kernel) (by decide +kernel)
set_option maxRecDepth 20000 in
theorem gL_law_X5_say : GoodIn wsL_law (wsV RL 21 RX5 yX5_say wsX5_say) := goodIn_app (goodIn_of _ (by decide +kernel)) ggL_law_X5_say
set_option maxRecDepth 20000 in
theorem ggL_law_X4_wipe : GoodIn wsL_law wsX4_wipe := goodIn_r _ [114, 20, 470, 471, 472, 473, 474, 475, 476, 477, 493, 494] (by decide +kernel) (by decide +kernel)
set_option maxRecDepth 20000 in
theorem gL_law_X4_wipe : GoodIn wsL_law (wsV RL 22 RX4 yX4_wipe wsX4_wipe) := goodIn_app (goodIn_of _ (by decide +kernel)) ggL_law_X4_wipe
set_option maxRecDepth 20000 in
theorem ggL_law_X5_wipe : GoodIn wsL_law wsX5_wipe := goodIn_r _ [118, 110, 478, 479, 480, 481, 482, 483, 484, 485, 486, 487] (by decide +kernel) (by decide +kernel)
set_option maxRecDepth 20000 in
theorem gL_law_X5_wipe : GoodIn wsL_law (wsV RL 26 RX5 yX5_wipe wsX5_wipe) := goodIn_app (goodIn_of _ (by decide +kernel)) ggL_law_X5_wipe
set_option maxRecDepth 20000 in
theorem ggL_law_X4_define : GoodIn wsL_law wsX4_define := goodIn_r _ [122, 20, 15, 30, 31, 123, 19, 124, 125, 45, 44, 126, 127, 128, 129, 130, 131, 132, 133, 134, 135, 84, 14, 85, 86, 40, 37, 136, 137, 138, 139, 140, 141, 142, 143, 144, 145, 146, 147, 148, 149, 150, 151, 470, 471, 472, 473, 474, 475, 476, 477, 488, 489, 490, 491, 492, 493, 494] (by decide +kernel) (by decide +kernel)
set_option maxRecDepth 20000 in
theorem gL_law_X4_define : GoodIn wsL_law (wsV RL 27 RX4 yX4_define wsX4_define) := goodIn_app (goodIn_of _ (by decide +kernel)) ggL_law_X4_define
set_option maxRecDepth 20000 in
theorem ggL_law_X5_define : GoodIn wsL_law wsX5_define := goodIn_r _ [155, 67, 66, 64, 110, 156, 157, 158, 5, 159, 160, 161, 162, 163, 164, 165, 166, 167, 63, 92, 93, 94, 168, 169, 170, 171, 172, 173, 174, 175, 176, 177, 478, 479, 480, 481, 482, 483, 484, 485, 486, 487] (by decide +kernel) (by decide +kernel)
set_option maxRecDepth 20000 in
theorem gL_law_X5_define : GoodIn wsL_law (wsV RL 30 RX5 yX5_define wsX5_define) := goodIn_app (goodIn_of _ (by decide +kernel)) ggL_law_X5_define
set_option maxRecDepth 20000 in
theorem ggL_law_X4_fault : GoodIn wsL_law wsX4_fault := goodIn_r _ [181, 20, 15, 123, 19, 124, 125, 45, 44, 126, 127, 128, 129, 130, 131, 132, 470, 471, 472, 473, 474, 475, 476, 477, 488, 489, 490, 491, 492, 493, 494] (by decide +kernel) (by decide +kernel)
set_option maxRecDepth 20000 in
theorem gL_law_X4_fault : GoodIn wsL_law (wsV RL 31 RX4 yX4_fault wsX4_fault) := goodIn_app (goodIn_of _ (by decide +kernel)) ggL_law_X4_fault
set_option maxRecDepth 20000 in
theorem ggL_law_X5_fault : GoodIn wsL_law wsX5_fault := goodIn_r _ [185, 156, 157, 158, 5, 159, 110, 160, 161, 162, 163, 66, 164, 165, 166, 167, 63, 92, 93, 94, 168, 169, 170, 171, 172, 173, 174, 478, 479, 480, 481, 482, 483, 484, 485, 486, 487] (by decide +kernel) (by decide +kernel)
set_option maxRecDepth 20000 in
theorem gL_law_X5_fault : GoodIn wsL_law (wsV RL 34 RX5 yX5_fault wsX5_fault) := goodIn_app (goodIn_of _ (by decide +kernel)) ggL_law_X5_fault
set_option maxRecDepth 20000 in
theorem ggL_law_X4_uses : GoodIn wsL_law wsX4_uses := goodIn_r _ [189, 15, 190, 14, 191, 192, 35, 142, 143, 144, 37, 470, 471, 472, 473, 474, 475, 476, 477, 488, 489, 490, 491, 492] (by decide +kernel) (by decide +kernel)
set_option maxRecDepth 20000 in
theorem gL_law_X4_uses : GoodIn wsL_law (wsV RL 35 RX4 yX4_uses wsX4_uses) := goodIn_app (goodIn_of _ (by decide +kernel)) ggL_law_X4_uses
set_option maxRecDepth 20000 in
theorem ggL_law_X5_uses : GoodIn wsL_law wsX5_uses := goodIn_r _ [196, 64, 164, 165, 166, 5, 167, 63, 92, 93, 94, 478, 479, 480, 481, 482, 483, 484, 485, 486, 487] (by decide +kernel) (by decide +kernel)
set_option maxRecDepth 20000 in
theorem gL_law_X5_uses : GoodIn wsL_law (wsV RL 38 RX5 yX5_uses wsX5_uses) := goodIn_app (goodIn_of _ (by decide +kernel)) ggL_law_X5_uses
set_option maxRecDepth 20000 in
theorem ggL_law_X4_users : GoodIn wsL_law wsX4_users := goodIn_r _ [200, 15, 190, 14, 191, 192, 35, 201, 202, 203, 40, 470, 471, 472, 473, 474, 475, 476, 477, 488, 489, 490, 491, 492] (by decide +kernel) (by decide +kernel)
set_option maxRecDepth 20000 in
theorem gL_law_X4_users : GoodIn wsL_law (wsV RL 39 RX4 yX4_users wsX4_users) := goodIn_app (goodIn_of _ (by decide +kernel)) ggL_law_X4_users
set_option maxRecDepth 20000 in
theorem ggL_law_X5_users : GoodIn wsL_law wsX5_users := goodIn_r _ [207, 164, 165, 166, 5, 167, 63, 92, 93, 94, 208, 209, 210, 211, 212, 213, 214, 215, 64, 172, 173, 174, 478, 479, 480, 481, 482, 483, 484, 485, 486, 487] (by decide +kernel) (by decide +kernel)
set_option maxRecDepth 20000 in
theorem gL_law_X5_users : GoodIn wsL_law (wsV RL 42 RX5 yX5_users wsX5_users) := goodIn_app (goodIn_of _ (by decide +kernel)) ggL_law_X5_users
set_option maxRecDepth 20000 in
theorem ggL_law_X4_cost : GoodIn wsL_law wsX4_cost := goodIn_r _ [219, 15, 190, 14, 191, 192, 35, 470, 471, 472, 473, 474, 475, 476, 477, 488, 489, 490, 491, 492] (by decide +kernel) (by decide +kernel)
set_option maxRecDepth 20000 in
theorem gL_law_X4_cost : GoodIn wsL_law (wsV RL 43 RX4 yX4_cost wsX4_cost) := goodIn_app (goodIn_of _ (by decide +kernel)) ggL_law_X4_cost
set_option maxRecDepth 20000 in
theorem ggL_law_X5_cost : GoodIn wsL_law wsX5_cost := goodIn_r _ [223, 65, 164, 165, 166, 5, 167, 63, 92, 93, 94, 478, 479, 480, 481, 482, 483, 484, 485, 486, 487] (by decide +kernel) (by decide +kernel)
set_option maxRecDepth 20000 in
theorem gL_law_X5_cost : GoodIn wsL_law (wsV RL 47 RX5 yX5_cost wsX5_cost) := goodIn_app (goodIn_of _ (by decide +kernel)) ggL_law_X5_cost
set_option maxRecDepth 20000 in
theorem ggL_law_X4_grounds : GoodIn wsL_law wsX4_grounds := goodIn_r _ [227, 15, 228, 14, 229, 230, 79, 80, 81, 82, 35, 231, 232, 233, 234, 235, 236, 237, 40, 238, 142, 143, 144, 37, 470, 471, 472, 473, 474, 475, 476, 477, 488, 489, 490, 491, 492] (by decide +kernel) (by decide +kernel)
set_option maxRecDepth 20000 in
theorem gL_law_X4_grounds : GoodIn wsL_law (wsV RL 48 RX4 yX4_grounds wsX4_grounds) := goodIn_app (goodIn_of _ (by decide +kernel)) ggL_law_X4_grounds
set_option maxRecDepth 20000 in
theorem ggL_law_X5_grounds : GoodIn wsL_law wsX5_grounds := goodIn_r _ [242, 243, 244, 245, 5, 246, 95, 96, 97, 98, 63, 92, 93, 94, 247, 248, 249, 250, 251, 252, 253, 254, 64, 478, 479, 480, 481, 482, 483, 484, 485, 486, 487] (by decide +kernel) (by decide +kernel)
set_option maxRecDepth 20000 in
theorem gL_law_X5_grounds : GoodIn wsL_law (wsV RL 51 RX5 yX5_grounds wsX5_grounds) := goodIn_app (goodIn_of _ (by decide +kernel)) ggL_law_X5_grounds
set_option maxRecDepth 20000 in
theorem ggL_law_X4_day : GoodIn wsL_law wsX4_day := goodIn_r _ [258, 15, 190, 14, 191, 192, 35, 228, 229, 230, 79, 80, 81, 82, 259, 260, 261, 234, 235, 236, 237, 40, 238, 142, 143, 144, 37, 470, 471, 472, 473, 474, 475, 476, 477, 488, 489, 490, 491, 492] (by decide +kernel) (by decide +kernel)
set_option maxRecDepth 20000 in
theorem gL_law_X4_day : GoodIn wsL_law (wsV RL 52 RX4 yX4_day wsX4_day) := goodIn_app (goodIn_of _ (by decide +kernel)) ggL_law_X4_day
set_option maxRecDepth 20000 in
theorem ggL_law_X5_day : GoodIn wsL_law wsX5_day := goodIn_r _ [265, 164, 165, 166, 5, 167, 63, 92, 93, 94, 243, 244, 245, 246, 95, 96, 97, 98, 247, 248, 249, 250, 251, 252, 253, 254, 64, 172, 173, 174, 478, 479, 480, 481, 482, 483, 484, 485, 486, 487] (by decide +kernel) (by decide +kernel)
set_option maxRecDepth 20000 in
theorem gL_law_X5_day : GoodIn wsL_law (wsV RL 55 RX5 yX5_day wsX5_day) := goodIn_app (goodIn_of _ (by decide +kernel)) ggL_law_X5_day
set_option maxRecDepth 20000 in
theorem ggL_law_X4_learned : GoodIn wsL_law wsX4_learned := goodIn_r _ [269, 15, 228, 14, 229, 230, 79, 80, 81, 82, 35, 235, 236, 237, 40, 238, 142, 143, 144, 37, 470, 471, 472, 473, 474, 475, 476, 477, 488, 489, 490, 491, 492] (by decide +kernel) (by decide +kernel)
set_option maxRecDepth 20000 in
theorem gL_law_X4_learned : GoodIn wsL_law (wsV RL 56 RX4 yX4_learned wsX4_learned) := goodIn_app (goodIn_of _ (by decide +kernel)) ggL_law_X4_learned
set_option maxRecDepth 20000 in
theorem ggL_law_X5_learned : GoodIn wsL_law wsX5_learned := goodIn_r _ [273, 243, 244, 245, 5, 246, 95, 96, 97, 98, 63, 92, 93, 94, 247, 248, 249, 250, 251, 252, 253, 254, 64, 478, 479, 480, 481, 482, 483, 484, 485, 486, 487] (by decide +kernel) (by decide +kernel)
set_option maxRecDepth 20000 in
theorem gL_law_X5_learned : GoodIn wsL_law (wsV RL 59 RX5 yX5_learned wsX5_learned) := goodIn_app (goodIn_of _ (by decide +kernel)) ggL_law_X5_learned
set_option maxRecDepth 20000 in
theorem ggL_law_X4_know : GoodIn wsL_law wsX4_know := goodIn_r _ [277, 15, 228, 14, 229, 230, 79, 80, 81, 82, 35, 470, 471, 472, 473, 474, 475, 476, 477, 488, 489, 490, 491, 492] (by decide +kernel) (by decide +kernel)
set_option maxRecDepth 20000 in
theorem gL_law_X4_know : GoodIn wsL_law (wsV RL 60 RX4 yX4_know wsX4_know) := goodIn_app (goodIn_of _ (by decide +kernel)) ggL_law_X4_know
set_option maxRecDepth 20000 in
theorem ggL_law_X5_know : GoodIn wsL_law wsX5_know := goodIn_r _ [281, 91, 243, 244, 245, 5, 246, 95, 96, 97, 98, 63, 92, 93, 94, 478, 479, 480, 481, 482, 483, 484, 485, 486, 487] (by decide +kernel) (by decide +kernel)
set_option maxRecDepth 20000 in
theorem gL_law_X5_know : GoodIn wsL_law (wsV RL 63 RX5 yX5_know wsX5_know) := goodIn_app (goodIn_of _ (by decide +kernel)) ggL_law_X5_know
set_option maxRecDepth 20000 in
theorem ggL_law_X4_plan : GoodIn wsL_law wsX4_plan := goodIn_r _ [285, 15, 286, 287, 288, 2, 289, 31, 28, 290, 291, 292, 293, 24, 294, 23, 295, 296, 49, 50, 51, 297, 27, 298, 299, 55, 56, 80, 14, 81, 82, 35, 300, 146, 147, 148, 149, 150, 151, 301, 302, 303, 304, 305, 306, 307, 308, 58, 309, 310, 311, 312, 313, 314, 315, 316, 317, 318, 319, 320, 321, 322, 39, 145, 259, 260, 261, 234, 235, 236, 237, 40, 238, 142, 143, 144, 37, 470, 471, 472, 473, 474, 475, 476, 477, 488, 489, 490, 491, 492, 495, 496, 497, 498, 499, 500] (by decide +kernel) (by decide +kernel)
set_option maxRecDepth 20000 in
theorem gL_law_X4_plan : GoodIn wsL_law (wsV RL 64 RX4 yX4_plan wsX4_plan) := goodIn_app (goodIn_of _ (by decide +kernel)) ggL_law_X4_plan
set_option maxRecDepth 20000 in
theorem ggL_law_X5_plan : GoodIn wsL_law wsX5_plan := goodIn_r _ [326, 91, 92, 93, 5, 94, 327, 328, 329, 330, 95, 96, 97, 98, 63, 331, 332, 333, 334, 335, 336, 337, 338, 65, 172, 173, 174, 175, 176, 177, 247, 248, 249, 250, 251, 252, 253, 254, 64, 478, 479, 480, 481, 482, 483, 484, 485, 486, 487] (by decide +kernel) (by decide +kernel)
set_option maxRecDepth 20000 in
theorem gL_law_X5_plan : GoodIn wsL_law (wsV RL 67 RX5 yX5_plan wsX5_plan) := goodIn_app (goodIn_of _ (by decide +kernel)) ggL_law_X5_plan
set_option maxRecDepth 20000 in
theorem ggL_law_X4_saves : GoodIn wsL_law wsX4_saves := goodIn_r _ [342, 15, 190, 14, 191, 192, 35, 286, 287, 288, 2, 289, 31, 28, 290, 291, 292, 293, 24, 294, 23, 295, 296, 49, 50, 51, 297, 27, 298, 299, 55, 56, 80, 81, 82, 300, 146, 147, 148, 149, 150, 151, 301, 302, 303, 304, 305, 306, 307, 308, 58, 309, 310, 311, 312, 313, 314, 315, 316, 317, 318, 319, 320, 321, 322, 39, 470, 471, 472, 473, 474, 475, 476, 477, 488, 489, 490, 491, 492, 495, 496, 497, 498, 499, 500] (by decide +kernel) (by decide +kernel)
set_option maxRecDepth 20000 in
theorem gL_law_X4_saves : GoodIn wsL_law (wsV RL 68 RX4 yX4_saves wsX4_saves) := goodIn_app (goodIn_of _ (by decide +kernel)) ggL_law_X4_saves
set_option maxRecDepth 20000 in
theorem ggL_law_X5_saves : GoodIn wsL_law wsX5_saves := goodIn_r _ [346, 91, 164, 165, 166, 5, 167, 63, 92, 93, 94, 327, 328, 329, 330, 95, 96, 97, 98, 331, 332, 333, 334, 335, 336, 337, 338, 65, 172, 173, 174, 175, 176, 177, 247, 248, 249, 250, 251, 252, 253, 254, 64, 478, 479, 480, 481, 482, 483, 484, 485, 486, 487] (by decide +kernel) (by decide +kernel)
set_option maxRecDepth 20000 in
theorem gL_law_X5_saves : GoodIn wsL_law (wsV RL 71 RX5 yX5_saves wsX5_saves) := goodIn_app (goodIn_of _ (by decide +kernel)) ggL_law_X5_saves
set_option maxRecDepth 20000 in
theorem ggL_law_X4_least : GoodIn wsL_law wsX4_least := goodIn_r _ [350, 15, 190, 14, 191, 192, 35, 286, 287, 288, 2, 289, 31, 28, 290, 291, 292, 293, 24, 294, 23, 295, 296, 49, 50, 51, 297, 27, 298, 299, 55, 56, 80, 81, 82, 300, 146, 147, 148, 149, 150, 151, 301, 302, 303, 304, 305, 306, 307, 308, 58, 309, 310, 311, 312, 313, 314, 315, 316, 351, 352, 353, 354, 355, 356, 357, 358, 359, 360, 470, 471, 472, 473, 474, 475, 476, 477, 488, 489, 490, 491, 492, 495, 496, 497, 498, 499, 500] (by decide +kernel) (by decide +kernel)
set_option maxRecDepth 20000 in
theorem gL_law_X4_least : GoodIn wsL_law (wsV RL 72 RX4 yX4_least wsX4_least) := goodIn_app (goodIn_of _ (by decide +kernel)) ggL_law_X4_least
set_option maxRecDepth 20000 in
theorem ggL_law_X5_least : GoodIn wsL_law wsX5_least := goodIn_r _ [364, 63, 69, 92, 93, 5, 94, 95, 96, 97, 98, 247, 248, 249, 250, 251, 252, 253, 254, 64, 365, 366, 367, 368, 172, 173, 174, 175, 176, 177, 478, 479, 480, 481, 482, 483, 484, 485, 486, 487] (by decide +kernel) (by decide +kernel)
set_option maxRecDepth 20000 in
theorem gL_law_X5_least : GoodIn wsL_law (wsV RL 75 RX5 yX5_least wsX5_least) := goodIn_app (goodIn_of _ (by decide +kernel)) ggL_law_X5_least
set_option maxRecDepth 20000 in
theorem ggL_law_X4_way : GoodIn wsL_law wsX4_way := goodIn_r _ [372, 15, 190, 14, 191, 192, 35, 373, 374, 375, 40, 376, 377, 378, 379, 470, 471, 472, 473, 474, 475, 476, 477, 488, 489, 490, 491, 492] (by decide +kernel) (by decide +kernel)
set_option maxRecDepth 20000 in
theorem gL_law_X4_way : GoodIn wsL_law (wsV RL 76 RX4 yX4_way wsX4_way) := goodIn_app (goodIn_of _ (by decide +kernel)) ggL_law_X4_way
set_option maxRecDepth 20000 in
theorem ggL_law_X5_way : GoodIn wsL_law wsX5_way := goodIn_r _ [383, 164, 165, 166, 5, 167, 63, 92, 93, 94, 384, 385, 386, 387, 388, 389, 390, 391, 64, 172, 173, 174, 478, 479, 480, 481, 482, 483, 484, 485, 486, 487] (by decide +kernel) (by decide +kernel)
set_option maxRecDepth 20000 in
theorem gL_law_X5_way : GoodIn wsL_law (wsV RL 79 RX5 yX5_way wsX5_way) := goodIn_app (goodIn_of _ (by decide +kernel)) ggL_law_X5_way
set_option maxRecDepth 20000 in
theorem ggL_law_X4_ring : GoodIn wsL_law wsX4_ring := goodIn_r _ [395, 290, 291, 292, 2, 293, 24, 15, 294, 23, 295, 296, 49, 50, 51, 396, 397, 398, 399, 400, 401, 402, 403, 404, 405, 470, 471, 472, 473, 474, 475, 476, 477, 488, 489, 490, 491, 492, 495, 496, 497] (by decide +kernel) (by decide +kernel)
set_option maxRecDepth 20000 in
theorem gL_law_X4_ring : GoodIn wsL_law (wsV RL 80 RX4 yX4_ring wsX4_ring) := goodIn_app (goodIn_of _ (by decide +kernel)) ggL_law_X4_ring
set_option maxRecDepth 20000 in
theorem ggL_law_X5_ring : GoodIn wsL_law wsX5_ring := goodIn_r _ [409, 63, 410, 411, 412, 5, 413, 384, 385, 386, 387, 388, 389, 390, 391, 64, 172, 173, 174, 478, 479, 480, 481, 482, 483, 484, 485, 486, 487] (by decide +kernel) (by decide +kernel)
set_option maxRecDepth 20000 in
theorem gL_law_X5_ring : GoodIn wsL_law (wsV RL 83 RX5 yX5_ring wsX5_ring) := goodIn_app (goodIn_of _ (by decide +kernel)) ggL_law_X5_ring
set_option maxRecDepth 20000 in
theorem ggL_law_X4_lie : GoodIn wsL_law wsX4_lie := goodIn_r _ [417, 15, 290, 291, 292, 2, 293, 24, 294, 23, 295, 296, 49, 50, 51, 418, 419, 420, 421, 422, 423, 80, 14, 81, 82, 35, 424, 425, 426, 40, 495, 496, 497, 470, 471, 472, 473, 474, 475, 476, 477, 488, 489, 490, 491, 492] (by decide +kernel) (by decide +kernel)
set_option maxRecDepth 20000 in
theorem gL_law_X4_lie : GoodIn wsL_law (wsV RL 84 RX4 yX4_lie wsX4_lie) := goodIn_app (goodIn_of _ (by decide +kernel)) ggL_law_X4_lie
set_option maxRecDepth 20000 in
theorem ggL_law_X5_lie : GoodIn wsL_law wsX5_lie := goodIn_r _ [430, 63, 64, 92, 93, 5, 94, 410, 411, 412, 413, 384, 385, 386, 387, 388, 389, 390, 391, 172, 173, 174, 208, 209, 210, 211, 212, 213, 214, 215, 431, 432, 433, 434, 435, 436, 437, 438, 478, 479, 480, 481, 482, 483, 484, 485, 486, 487] (by decide +kernel) (by decide +kernel)
set_option maxRecDepth 20000 in
theorem gL_law_X5_lie : GoodIn wsL_law (wsV RL 87 RX5 yX5_lie wsX5_lie) := goodIn_app (goodIn_of _ (by decide +kernel)) ggL_law_X5_lie
set_option maxRecDepth 20000 in
theorem ggL_law_X4_image : GoodIn wsL_law wsX4_image := goodIn_r _ [442, 16, 15, 29, 443, 14, 444, 445, 35, 36, 37, 39, 40, 470, 471, 472, 473, 474, 475, 476, 477, 488, 489, 490, 491, 492] (by decide +kernel) (by decide +kernel)
set_option maxRecDepth 20000 in
theorem gL_law_X4_image : GoodIn wsL_law (wsV RL 88 RX4 yX4_image wsX4_image) := goodIn_app (goodIn_of _ (by decide +kernel)) ggL_law_X4_image
set_option maxRecDepth 20000 in
theorem ggL_law_X5_image : GoodIn wsL_law wsX5_image := goodIn_r _ [449, 70, 63, 91, 64, 65, 71, 92, 93, 5, 94, 478, 479, 480, 481, 482, 483, 484, 485, 486, 487] (by decide +kernel) (by decide +kernel)
set_option maxRecDepth 20000 in
theorem gL_law_X5_image : GoodIn wsL_law (wsV RL 91 RX5 yX5_image wsX5_image) := goodIn_app (goodIn_of _ (by decide +kernel)) ggL_law_X5_image
set_option maxRecDepth 20000 in
theorem ggL_law_X4_restore : GoodIn wsL_law wsX4_restore := goodIn_r _ [453, 29, 15, 16, 31, 443, 14, 444, 445, 35, 36, 37, 39, 40, 470, 471, 472, 473, 474, 475, 476, 477, 488, 489, 490, 491, 492] (by decide +kernel) (by decide +kernel)
set_option maxRecDepth 20000 in
theorem gL_law_X4_restore : GoodIn wsL_law (wsV RL 92 RX4 yX4_restore wsX4_restore) := goodIn_app (goodIn_of _ (by decide +kernel)) ggL_law_X4_restore
set_option maxRecDepth 20000 in
theorem ggL_law_X5_restore : GoodIn wsL_law wsX5_restore := goodIn_r _ [457, 71, 70, 63, 91, 64, 65, 92, 93, 5, 94, 478, 479, 480, 481, 482, 483, 484, 485, 486, 487] (by decide +kernel) (by decide +kernel)
set_option maxRecDepth 20000 in
theorem gL_law_X5_restore : GoodIn wsL_law (wsV RL 95 RX5 yX5_restore wsX5_restore) := goodIn_app (goodIn_of _ (by decide +kernel)) ggL_law_X5_restore
set_option maxRecDepth 20000 in
theorem ggL_law_X4_count : GoodIn wsL_law wsX4_count := goodIn_r _ [461, 15, 20, 30, 29, 145, 146, 147, 148, 149, 150, 151, 462, 14, 463, 464, 35, 40, 465, 190, 191, 192, 470, 471, 472, 473, 474, 475, 476, 477, 488, 489, 490, 491, 492, 493, 494] (by decide +kernel) (by decide +kernel)
set_option maxRecDepth 20000 in
theorem gL_law_X4_count : GoodIn wsL_law (wsV RL 96 RX4 yX4_count wsX4_count) := goodIn_app (goodIn_of _ (by decide +kernel)) ggL_law_X4_count
set_option maxRecDepth 20000 in
theorem ggL_law_X5_count : GoodIn wsL_law wsX5_count := goodIn_r _ [469, 63, 65, 64, 91, 110, 67, 71, 92, 93, 5, 94, 175, 176, 177, 478, 479, 480, 481, 482, 483, 484, 485, 486, 487] (by decide +kernel) (by decide +kernel)
set_option maxRecDepth 20000 in
theorem gL_law_X5_count : GoodIn wsL_law (wsV RL 99 RX5 yX5_count wsX5_count) := goodIn_app (goodIn_of _ (by decide +kernel)) ggL_law_X5_count
theorem dL_law_0 : decode cL_law 0 = .ok (.new 7, 3) := by decide +kernel
theorem dL_law_3 : decode cL_law 3 = .ok (.dup, 1) := by decide +kernel
theorem dL_law_4 : decode cL_law 4 = .ok (.invokespecial 9, 3) := by decide +kernel
theorem dL_law_7 : decode cL_law 7 = .ok (.astore_n 1, 1) := by decide +kernel
theorem dL_law_8 : decode cL_law 8 = .ok (.new 10, 3) := by decide +kernel
theorem dL_law_11 : decode cL_law 11 = .ok (.dup, 1) := by decide +kernel
theorem dL_law_12 : decode cL_law 12 = .ok (.invokespecial 12, 3) := by decide +kernel
theorem dL_law_15 : decode cL_law 15 = .ok (.astore_n 2, 1) := by decide +kernel
theorem dL_law_16 : decode cL_law 16 = .ok (.iconst 0, 1) := by decide +kernel
theorem dL_law_17 : decode cL_law 17 = .ok (.istore_n 3, 1) := by decide +kernel
theorem dL_law_18 : decode cL_law 18 = .ok (.iload_n 3, 1) := by decide +kernel
theorem dL_law_19 : decode cL_law 19 = .ok (.aload_n 0, 1) := by decide +kernel
theorem dL_law_20 : decode cL_law 20 = .ok (.arraylength, 1) := by decide +kernel
theorem dL_law_21 : decode cL_law 21 = .ok (.iconst 3, 1) := by decide +kernel
theorem dL_law_22 : decode cL_law 22 = .ok (.isub, 1) := by decide +kernel
theorem dL_law_23 : decode cL_law 23 = .ok (.if_icmp .gt 608, 3) := by decide +kernel
theorem dL_law_26 : decode cL_law 26 = .ok (.aload_n 0, 1) := by decide +kernel
theorem dL_law_27 : decode cL_law 27 = .ok (.iload_n 3, 1) := by decide +kernel
theorem dL_law_28 : decode cL_law 28 = .ok (.iaload, 1) := by decide +kernel
theorem dL_law_29 : decode cL_law 29 = .ok (.bipush 31, 2) := by decide +kernel
theorem dL_law_31 : decode cL_law 31 = .ok (.iand, 1) := by decide +kernel
theorem dL_law_32 : decode cL_law 32 = .ok (.tableswitch 593 0 20 #[100, 123, 146, 159, 172, 185, 208, 231, 264, 287, 320, 353, 376, 399, 422, 445, 478, 501, 524, 547, 570], 100) := by decide +kernel
theorem dL_law_132 : decode cL_law 132 = .ok (.aload_n 1, 1) := by decide +kernel
theorem dL_law_133 : decode cL_law 133 = .ok (.aload_n 0, 1) := by decide +kernel
theorem dL_law_134 : decode cL_law 134 = .ok (.iload_n 3, 1) := by decide +kernel
theorem dL_law_135 : decode cL_law 135 = .ok (.iconst 1, 1) := by decide +kernel
theorem dL_law_136 : decode cL_law 136 = .ok (.iadd, 1) := by decide +kernel
theorem dL_law_137 : decode cL_law 137 = .ok (.iaload, 1) := by decide +kernel
theorem dL_law_138 : decode cL_law 138 = .ok (.invokevirtual 13, 3) := by decide +kernel
theorem dL_law_141 : decode cL_law 141 = .ok (.aload_n 2, 1) := by decide +kernel
theorem dL_law_142 : decode cL_law 142 = .ok (.aload_n 0, 1) := by decide +kernel
theorem dL_law_143 : decode cL_law 143 = .ok (.iload_n 3, 1) := by decide +kernel
theorem dL_law_144 : decode cL_law 144 = .ok (.iconst 1, 1) := by decide +kernel
theorem dL_law_145 : decode cL_law 145 = .ok (.iadd, 1) := by decide +kernel
theorem dL_law_146 : decode cL_law 146 = .ok (.iaload, 1) := by decide +kernel
theorem dL_law_147 : decode cL_law 147 = .ok (.invokevirtual 17, 3) := by decide +kernel
theorem dL_law_150 : decode cL_law 150 = .ok (.if_icmp .eq 475, 3) := by decide +kernel
theorem dL_law_153 : decode cL_law 153 = .ok (.iconst 0, 1) := by decide +kernel
theorem dL_law_154 : decode cL_law 154 = .ok (.ireturn, 1) := by decide +kernel
theorem dL_law_155 : decode cL_law 155 = .ok (.aload_n 1, 1) := by decide +kernel
theorem dL_law_156 : decode cL_law 156 = .ok (.aload_n 0, 1) := by decide +kernel
theorem dL_law_157 : decode cL_law 157 = .ok (.iload_n 3, 1) := by decide +kernel
theorem dL_law_158 : decode cL_law 158 = .ok (.iconst 1, 1) := by decide +kernel
theorem dL_law_159 : decode cL_law 159 = .ok (.iadd, 1) := by decide +kernel
theorem dL_law_160 : decode cL_law 160 = .ok (.iaload, 1) := by decide +kernel
theorem dL_law_161 : decode cL_law 161 = .ok (.invokevirtual 18, 3) := by decide +kernel
theorem dL_law_164 : decode cL_law 164 = .ok (.aload_n 2, 1) := by decide +kernel
theorem dL_law_165 : decode cL_law 165 = .ok (.aload_n 0, 1) := by decide +kernel
theorem dL_law_166 : decode cL_law 166 = .ok (.iload_n 3, 1) := by decide +kernel
theorem dL_law_167 : decode cL_law 167 = .ok (.iconst 1, 1) := by decide +kernel
theorem dL_law_168 : decode cL_law 168 = .ok (.iadd, 1) := by decide +kernel
theorem dL_law_169 : decode cL_law 169 = .ok (.iaload, 1) := by decide +kernel
theorem dL_law_170 : decode cL_law 170 = .ok (.invokevirtual 21, 3) := by decide +kernel
theorem dL_law_173 : decode cL_law 173 = .ok (.if_icmp .eq 452, 3) := by decide +kernel
theorem dL_law_176 : decode cL_law 176 = .ok (.iconst 0, 1) := by decide +kernel
theorem dL_law_177 : decode cL_law 177 = .ok (.ireturn, 1) := by decide +kernel
theorem dL_law_178 : decode cL_law 178 = .ok (.aload_n 1, 1) := by decide +kernel
theorem dL_law_179 : decode cL_law 179 = .ok (.invokevirtual 22, 3) := by decide +kernel
theorem dL_law_182 : decode cL_law 182 = .ok (.aload_n 2, 1) := by decide +kernel
theorem dL_law_183 : decode cL_law 183 = .ok (.invokevirtual 26, 3) := by decide +kernel
theorem dL_law_186 : decode cL_law 186 = .ok (.if_icmp .eq 439, 3) := by decide +kernel
theorem dL_law_189 : decode cL_law 189 = .ok (.iconst 0, 1) := by decide +kernel
theorem dL_law_190 : decode cL_law 190 = .ok (.ireturn, 1) := by decide +kernel
theorem dL_law_191 : decode cL_law 191 = .ok (.aload_n 1, 1) := by decide +kernel
theorem dL_law_192 : decode cL_law 192 = .ok (.invokevirtual 27, 3) := by decide +kernel
theorem dL_law_195 : decode cL_law 195 = .ok (.aload_n 2, 1) := by decide +kernel
theorem dL_law_196 : decode cL_law 196 = .ok (.invokevirtual 30, 3) := by decide +kernel
theorem dL_law_199 : decode cL_law 199 = .ok (.if_icmp .eq 426, 3) := by decide +kernel
theorem dL_law_202 : decode cL_law 202 = .ok (.iconst 0, 1) := by decide +kernel
theorem dL_law_203 : decode cL_law 203 = .ok (.ireturn, 1) := by decide +kernel
theorem dL_law_204 : decode cL_law 204 = .ok (.aload_n 1, 1) := by decide +kernel
theorem dL_law_205 : decode cL_law 205 = .ok (.invokevirtual 31, 3) := by decide +kernel
theorem dL_law_208 : decode cL_law 208 = .ok (.aload_n 2, 1) := by decide +kernel
theorem dL_law_209 : decode cL_law 209 = .ok (.invokevirtual 34, 3) := by decide +kernel
theorem dL_law_212 : decode cL_law 212 = .ok (.if_icmp .eq 413, 3) := by decide +kernel
theorem dL_law_215 : decode cL_law 215 = .ok (.iconst 0, 1) := by decide +kernel
theorem dL_law_216 : decode cL_law 216 = .ok (.ireturn, 1) := by decide +kernel
theorem dL_law_217 : decode cL_law 217 = .ok (.aload_n 1, 1) := by decide +kernel
theorem dL_law_218 : decode cL_law 218 = .ok (.aload_n 0, 1) := by decide +kernel
theorem dL_law_219 : decode cL_law 219 = .ok (.iload_n 3, 1) := by decide +kernel
theorem dL_law_220 : decode cL_law 220 = .ok (.iconst 1, 1) := by decide +kernel
theorem dL_law_221 : decode cL_law 221 = .ok (.iadd, 1) := by decide +kernel
theorem dL_law_222 : decode cL_law 222 = .ok (.iaload, 1) := by decide +kernel
theorem dL_law_223 : decode cL_law 223 = .ok (.invokevirtual 35, 3) := by decide +kernel
theorem dL_law_226 : decode cL_law 226 = .ok (.aload_n 2, 1) := by decide +kernel
theorem dL_law_227 : decode cL_law 227 = .ok (.aload_n 0, 1) := by decide +kernel
theorem dL_law_228 : decode cL_law 228 = .ok (.iload_n 3, 1) := by decide +kernel
theorem dL_law_229 : decode cL_law 229 = .ok (.iconst 1, 1) := by decide +kernel
theorem dL_law_230 : decode cL_law 230 = .ok (.iadd, 1) := by decide +kernel
theorem dL_law_231 : decode cL_law 231 = .ok (.iaload, 1) := by decide +kernel
theorem dL_law_232 : decode cL_law 232 = .ok (.invokevirtual 38, 3) := by decide +kernel
theorem dL_law_235 : decode cL_law 235 = .ok (.if_icmp .eq 390, 3) := by decide +kernel
theorem dL_law_238 : decode cL_law 238 = .ok (.iconst 0, 1) := by decide +kernel
theorem dL_law_239 : decode cL_law 239 = .ok (.ireturn, 1) := by decide +kernel
theorem dL_law_240 : decode cL_law 240 = .ok (.aload_n 1, 1) := by decide +kernel
theorem dL_law_241 : decode cL_law 241 = .ok (.aload_n 0, 1) := by decide +kernel
theorem dL_law_242 : decode cL_law 242 = .ok (.iload_n 3, 1) := by decide +kernel
theorem dL_law_243 : decode cL_law 243 = .ok (.iconst 1, 1) := by decide +kernel
theorem dL_law_244 : decode cL_law 244 = .ok (.iadd, 1) := by decide +kernel
theorem dL_law_245 : decode cL_law 245 = .ok (.iaload, 1) := by decide +kernel
theorem dL_law_246 : decode cL_law 246 = .ok (.invokevirtual 39, 3) := by decide +kernel
theorem dL_law_249 : decode cL_law 249 = .ok (.aload_n 2, 1) := by decide +kernel
theorem dL_law_250 : decode cL_law 250 = .ok (.aload_n 0, 1) := by decide +kernel
theorem dL_law_251 : decode cL_law 251 = .ok (.iload_n 3, 1) := by decide +kernel
theorem dL_law_252 : decode cL_law 252 = .ok (.iconst 1, 1) := by decide +kernel
theorem dL_law_253 : decode cL_law 253 = .ok (.iadd, 1) := by decide +kernel
theorem dL_law_254 : decode cL_law 254 = .ok (.iaload, 1) := by decide +kernel
theorem dL_law_255 : decode cL_law 255 = .ok (.invokevirtual 42, 3) := by decide +kernel
theorem dL_law_258 : decode cL_law 258 = .ok (.if_icmp .eq 367, 3) := by decide +kernel
theorem dL_law_261 : decode cL_law 261 = .ok (.iconst 0, 1) := by decide +kernel
theorem dL_law_262 : decode cL_law 262 = .ok (.ireturn, 1) := by decide +kernel
theorem dL_law_263 : decode cL_law 263 = .ok (.aload_n 1, 1) := by decide +kernel
theorem dL_law_264 : decode cL_law 264 = .ok (.aload_n 0, 1) := by decide +kernel
theorem dL_law_265 : decode cL_law 265 = .ok (.iload_n 3, 1) := by decide +kernel
theorem dL_law_266 : decode cL_law 266 = .ok (.iconst 1, 1) := by decide +kernel
theorem dL_law_267 : decode cL_law 267 = .ok (.iadd, 1) := by decide +kernel
theorem dL_law_268 : decode cL_law 268 = .ok (.iaload, 1) := by decide +kernel
theorem dL_law_269 : decode cL_law 269 = .ok (.aload_n 0, 1) := by decide +kernel
theorem dL_law_270 : decode cL_law 270 = .ok (.iload_n 3, 1) := by decide +kernel
theorem dL_law_271 : decode cL_law 271 = .ok (.iconst 2, 1) := by decide +kernel
theorem dL_law_272 : decode cL_law 272 = .ok (.iadd, 1) := by decide +kernel
theorem dL_law_273 : decode cL_law 273 = .ok (.iaload, 1) := by decide +kernel
theorem dL_law_274 : decode cL_law 274 = .ok (.invokevirtual 43, 3) := by decide +kernel
theorem dL_law_277 : decode cL_law 277 = .ok (.aload_n 2, 1) := by decide +kernel
theorem dL_law_278 : decode cL_law 278 = .ok (.aload_n 0, 1) := by decide +kernel
theorem dL_law_279 : decode cL_law 279 = .ok (.iload_n 3, 1) := by decide +kernel
theorem dL_law_280 : decode cL_law 280 = .ok (.iconst 1, 1) := by decide +kernel
theorem dL_law_281 : decode cL_law 281 = .ok (.iadd, 1) := by decide +kernel
theorem dL_law_282 : decode cL_law 282 = .ok (.iaload, 1) := by decide +kernel
theorem dL_law_283 : decode cL_law 283 = .ok (.aload_n 0, 1) := by decide +kernel
theorem dL_law_284 : decode cL_law 284 = .ok (.iload_n 3, 1) := by decide +kernel
theorem dL_law_285 : decode cL_law 285 = .ok (.iconst 2, 1) := by decide +kernel
theorem dL_law_286 : decode cL_law 286 = .ok (.iadd, 1) := by decide +kernel
theorem dL_law_287 : decode cL_law 287 = .ok (.iaload, 1) := by decide +kernel
theorem dL_law_288 : decode cL_law 288 = .ok (.invokevirtual 47, 3) := by decide +kernel
theorem dL_law_291 : decode cL_law 291 = .ok (.if_icmp .eq 334, 3) := by decide +kernel
theorem dL_law_294 : decode cL_law 294 = .ok (.iconst 0, 1) := by decide +kernel
theorem dL_law_295 : decode cL_law 295 = .ok (.ireturn, 1) := by decide +kernel
theorem dL_law_296 : decode cL_law 296 = .ok (.aload_n 1, 1) := by decide +kernel
theorem dL_law_297 : decode cL_law 297 = .ok (.aload_n 0, 1) := by decide +kernel
theorem dL_law_298 : decode cL_law 298 = .ok (.iload_n 3, 1) := by decide +kernel
theorem dL_law_299 : decode cL_law 299 = .ok (.iconst 1, 1) := by decide +kernel
theorem dL_law_300 : decode cL_law 300 = .ok (.iadd, 1) := by decide +kernel
theorem dL_law_301 : decode cL_law 301 = .ok (.iaload, 1) := by decide +kernel
theorem dL_law_302 : decode cL_law 302 = .ok (.invokevirtual 48, 3) := by decide +kernel
theorem dL_law_305 : decode cL_law 305 = .ok (.aload_n 2, 1) := by decide +kernel
theorem dL_law_306 : decode cL_law 306 = .ok (.aload_n 0, 1) := by decide +kernel
theorem dL_law_307 : decode cL_law 307 = .ok (.iload_n 3, 1) := by decide +kernel
theorem dL_law_308 : decode cL_law 308 = .ok (.iconst 1, 1) := by decide +kernel
theorem dL_law_309 : decode cL_law 309 = .ok (.iadd, 1) := by decide +kernel
theorem dL_law_310 : decode cL_law 310 = .ok (.iaload, 1) := by decide +kernel
theorem dL_law_311 : decode cL_law 311 = .ok (.invokevirtual 51, 3) := by decide +kernel
theorem dL_law_314 : decode cL_law 314 = .ok (.if_icmp .eq 311, 3) := by decide +kernel
theorem dL_law_317 : decode cL_law 317 = .ok (.iconst 0, 1) := by decide +kernel
theorem dL_law_318 : decode cL_law 318 = .ok (.ireturn, 1) := by decide +kernel
theorem dL_law_319 : decode cL_law 319 = .ok (.aload_n 1, 1) := by decide +kernel
theorem dL_law_320 : decode cL_law 320 = .ok (.aload_n 0, 1) := by decide +kernel
theorem dL_law_321 : decode cL_law 321 = .ok (.iload_n 3, 1) := by decide +kernel
theorem dL_law_322 : decode cL_law 322 = .ok (.iconst 1, 1) := by decide +kernel
theorem dL_law_323 : decode cL_law 323 = .ok (.iadd, 1) := by decide +kernel
theorem dL_law_324 : decode cL_law 324 = .ok (.iaload, 1) := by decide +kernel
theorem dL_law_325 : decode cL_law 325 = .ok (.aload_n 0, 1) := by decide +kernel
theorem dL_law_326 : decode cL_law 326 = .ok (.iload_n 3, 1) := by decide +kernel
theorem dL_law_327 : decode cL_law 327 = .ok (.iconst 2, 1) := by decide +kernel
theorem dL_law_328 : decode cL_law 328 = .ok (.iadd, 1) := by decide +kernel
theorem dL_law_329 : decode cL_law 329 = .ok (.iaload, 1) := by decide +kernel
theorem dL_law_330 : decode cL_law 330 = .ok (.invokevirtual 52, 3) := by decide +kernel
theorem dL_law_333 : decode cL_law 333 = .ok (.aload_n 2, 1) := by decide +kernel
theorem dL_law_334 : decode cL_law 334 = .ok (.aload_n 0, 1) := by decide +kernel
theorem dL_law_335 : decode cL_law 335 = .ok (.iload_n 3, 1) := by decide +kernel
theorem dL_law_336 : decode cL_law 336 = .ok (.iconst 1, 1) := by decide +kernel
theorem dL_law_337 : decode cL_law 337 = .ok (.iadd, 1) := by decide +kernel
theorem dL_law_338 : decode cL_law 338 = .ok (.iaload, 1) := by decide +kernel
theorem dL_law_339 : decode cL_law 339 = .ok (.aload_n 0, 1) := by decide +kernel
theorem dL_law_340 : decode cL_law 340 = .ok (.iload_n 3, 1) := by decide +kernel
theorem dL_law_341 : decode cL_law 341 = .ok (.iconst 2, 1) := by decide +kernel
theorem dL_law_342 : decode cL_law 342 = .ok (.iadd, 1) := by decide +kernel
theorem dL_law_343 : decode cL_law 343 = .ok (.iaload, 1) := by decide +kernel
theorem dL_law_344 : decode cL_law 344 = .ok (.invokevirtual 55, 3) := by decide +kernel
theorem dL_law_347 : decode cL_law 347 = .ok (.if_icmp .eq 278, 3) := by decide +kernel
theorem dL_law_350 : decode cL_law 350 = .ok (.iconst 0, 1) := by decide +kernel
theorem dL_law_351 : decode cL_law 351 = .ok (.ireturn, 1) := by decide +kernel
theorem dL_law_352 : decode cL_law 352 = .ok (.aload_n 1, 1) := by decide +kernel
theorem dL_law_353 : decode cL_law 353 = .ok (.aload_n 0, 1) := by decide +kernel
theorem dL_law_354 : decode cL_law 354 = .ok (.iload_n 3, 1) := by decide +kernel
theorem dL_law_355 : decode cL_law 355 = .ok (.iconst 1, 1) := by decide +kernel
theorem dL_law_356 : decode cL_law 356 = .ok (.iadd, 1) := by decide +kernel
theorem dL_law_357 : decode cL_law 357 = .ok (.iaload, 1) := by decide +kernel
theorem dL_law_358 : decode cL_law 358 = .ok (.aload_n 0, 1) := by decide +kernel
theorem dL_law_359 : decode cL_law 359 = .ok (.iload_n 3, 1) := by decide +kernel
theorem dL_law_360 : decode cL_law 360 = .ok (.iconst 2, 1) := by decide +kernel
theorem dL_law_361 : decode cL_law 361 = .ok (.iadd, 1) := by decide +kernel
theorem dL_law_362 : decode cL_law 362 = .ok (.iaload, 1) := by decide +kernel
theorem dL_law_363 : decode cL_law 363 = .ok (.invokevirtual 56, 3) := by decide +kernel
theorem dL_law_366 : decode cL_law 366 = .ok (.aload_n 2, 1) := by decide +kernel
theorem dL_law_367 : decode cL_law 367 = .ok (.aload_n 0, 1) := by decide +kernel
theorem dL_law_368 : decode cL_law 368 = .ok (.iload_n 3, 1) := by decide +kernel
theorem dL_law_369 : decode cL_law 369 = .ok (.iconst 1, 1) := by decide +kernel
theorem dL_law_370 : decode cL_law 370 = .ok (.iadd, 1) := by decide +kernel
theorem dL_law_371 : decode cL_law 371 = .ok (.iaload, 1) := by decide +kernel
theorem dL_law_372 : decode cL_law 372 = .ok (.aload_n 0, 1) := by decide +kernel
theorem dL_law_373 : decode cL_law 373 = .ok (.iload_n 3, 1) := by decide +kernel
theorem dL_law_374 : decode cL_law 374 = .ok (.iconst 2, 1) := by decide +kernel
theorem dL_law_375 : decode cL_law 375 = .ok (.iadd, 1) := by decide +kernel
theorem dL_law_376 : decode cL_law 376 = .ok (.iaload, 1) := by decide +kernel
theorem dL_law_377 : decode cL_law 377 = .ok (.invokevirtual 59, 3) := by decide +kernel
theorem dL_law_380 : decode cL_law 380 = .ok (.if_icmp .eq 245, 3) := by decide +kernel
theorem dL_law_383 : decode cL_law 383 = .ok (.iconst 0, 1) := by decide +kernel
theorem dL_law_384 : decode cL_law 384 = .ok (.ireturn, 1) := by decide +kernel
theorem dL_law_385 : decode cL_law 385 = .ok (.aload_n 1, 1) := by decide +kernel
theorem dL_law_386 : decode cL_law 386 = .ok (.aload_n 0, 1) := by decide +kernel
theorem dL_law_387 : decode cL_law 387 = .ok (.iload_n 3, 1) := by decide +kernel
theorem dL_law_388 : decode cL_law 388 = .ok (.iconst 1, 1) := by decide +kernel
theorem dL_law_389 : decode cL_law 389 = .ok (.iadd, 1) := by decide +kernel
theorem dL_law_390 : decode cL_law 390 = .ok (.iaload, 1) := by decide +kernel
theorem dL_law_391 : decode cL_law 391 = .ok (.invokevirtual 60, 3) := by decide +kernel
theorem dL_law_394 : decode cL_law 394 = .ok (.aload_n 2, 1) := by decide +kernel
theorem dL_law_395 : decode cL_law 395 = .ok (.aload_n 0, 1) := by decide +kernel
theorem dL_law_396 : decode cL_law 396 = .ok (.iload_n 3, 1) := by decide +kernel
theorem dL_law_397 : decode cL_law 397 = .ok (.iconst 1, 1) := by decide +kernel
theorem dL_law_398 : decode cL_law 398 = .ok (.iadd, 1) := by decide +kernel
theorem dL_law_399 : decode cL_law 399 = .ok (.iaload, 1) := by decide +kernel
theorem dL_law_400 : decode cL_law 400 = .ok (.invokevirtual 63, 3) := by decide +kernel
theorem dL_law_403 : decode cL_law 403 = .ok (.if_icmp .eq 222, 3) := by decide +kernel
theorem dL_law_406 : decode cL_law 406 = .ok (.iconst 0, 1) := by decide +kernel
theorem dL_law_407 : decode cL_law 407 = .ok (.ireturn, 1) := by decide +kernel
theorem dL_law_408 : decode cL_law 408 = .ok (.aload_n 1, 1) := by decide +kernel
theorem dL_law_409 : decode cL_law 409 = .ok (.aload_n 0, 1) := by decide +kernel
theorem dL_law_410 : decode cL_law 410 = .ok (.iload_n 3, 1) := by decide +kernel
theorem dL_law_411 : decode cL_law 411 = .ok (.iconst 1, 1) := by decide +kernel
theorem dL_law_412 : decode cL_law 412 = .ok (.iadd, 1) := by decide +kernel
theorem dL_law_413 : decode cL_law 413 = .ok (.iaload, 1) := by decide +kernel
theorem dL_law_414 : decode cL_law 414 = .ok (.invokevirtual 64, 3) := by decide +kernel
theorem dL_law_417 : decode cL_law 417 = .ok (.aload_n 2, 1) := by decide +kernel
theorem dL_law_418 : decode cL_law 418 = .ok (.aload_n 0, 1) := by decide +kernel
theorem dL_law_419 : decode cL_law 419 = .ok (.iload_n 3, 1) := by decide +kernel
theorem dL_law_420 : decode cL_law 420 = .ok (.iconst 1, 1) := by decide +kernel
theorem dL_law_421 : decode cL_law 421 = .ok (.iadd, 1) := by decide +kernel
theorem dL_law_422 : decode cL_law 422 = .ok (.iaload, 1) := by decide +kernel
theorem dL_law_423 : decode cL_law 423 = .ok (.invokevirtual 67, 3) := by decide +kernel
theorem dL_law_426 : decode cL_law 426 = .ok (.if_icmp .eq 199, 3) := by decide +kernel
theorem dL_law_429 : decode cL_law 429 = .ok (.iconst 0, 1) := by decide +kernel
theorem dL_law_430 : decode cL_law 430 = .ok (.ireturn, 1) := by decide +kernel
theorem dL_law_431 : decode cL_law 431 = .ok (.aload_n 1, 1) := by decide +kernel
theorem dL_law_432 : decode cL_law 432 = .ok (.aload_n 0, 1) := by decide +kernel
theorem dL_law_433 : decode cL_law 433 = .ok (.iload_n 3, 1) := by decide +kernel
theorem dL_law_434 : decode cL_law 434 = .ok (.iconst 1, 1) := by decide +kernel
theorem dL_law_435 : decode cL_law 435 = .ok (.iadd, 1) := by decide +kernel
theorem dL_law_436 : decode cL_law 436 = .ok (.iaload, 1) := by decide +kernel
theorem dL_law_437 : decode cL_law 437 = .ok (.invokevirtual 68, 3) := by decide +kernel
theorem dL_law_440 : decode cL_law 440 = .ok (.aload_n 2, 1) := by decide +kernel
theorem dL_law_441 : decode cL_law 441 = .ok (.aload_n 0, 1) := by decide +kernel
theorem dL_law_442 : decode cL_law 442 = .ok (.iload_n 3, 1) := by decide +kernel
theorem dL_law_443 : decode cL_law 443 = .ok (.iconst 1, 1) := by decide +kernel
theorem dL_law_444 : decode cL_law 444 = .ok (.iadd, 1) := by decide +kernel
theorem dL_law_445 : decode cL_law 445 = .ok (.iaload, 1) := by decide +kernel
theorem dL_law_446 : decode cL_law 446 = .ok (.invokevirtual 71, 3) := by decide +kernel
theorem dL_law_449 : decode cL_law 449 = .ok (.if_icmp .eq 176, 3) := by decide +kernel
theorem dL_law_452 : decode cL_law 452 = .ok (.iconst 0, 1) := by decide +kernel
theorem dL_law_453 : decode cL_law 453 = .ok (.ireturn, 1) := by decide +kernel
theorem dL_law_454 : decode cL_law 454 = .ok (.aload_n 1, 1) := by decide +kernel
theorem dL_law_455 : decode cL_law 455 = .ok (.aload_n 0, 1) := by decide +kernel
theorem dL_law_456 : decode cL_law 456 = .ok (.iload_n 3, 1) := by decide +kernel
theorem dL_law_457 : decode cL_law 457 = .ok (.iconst 1, 1) := by decide +kernel
theorem dL_law_458 : decode cL_law 458 = .ok (.iadd, 1) := by decide +kernel
theorem dL_law_459 : decode cL_law 459 = .ok (.iaload, 1) := by decide +kernel
theorem dL_law_460 : decode cL_law 460 = .ok (.invokevirtual 72, 3) := by decide +kernel
theorem dL_law_463 : decode cL_law 463 = .ok (.aload_n 2, 1) := by decide +kernel
theorem dL_law_464 : decode cL_law 464 = .ok (.aload_n 0, 1) := by decide +kernel
theorem dL_law_465 : decode cL_law 465 = .ok (.iload_n 3, 1) := by decide +kernel
theorem dL_law_466 : decode cL_law 466 = .ok (.iconst 1, 1) := by decide +kernel
theorem dL_law_467 : decode cL_law 467 = .ok (.iadd, 1) := by decide +kernel
theorem dL_law_468 : decode cL_law 468 = .ok (.iaload, 1) := by decide +kernel
theorem dL_law_469 : decode cL_law 469 = .ok (.invokevirtual 75, 3) := by decide +kernel
theorem dL_law_472 : decode cL_law 472 = .ok (.if_icmp .eq 153, 3) := by decide +kernel
theorem dL_law_475 : decode cL_law 475 = .ok (.iconst 0, 1) := by decide +kernel
theorem dL_law_476 : decode cL_law 476 = .ok (.ireturn, 1) := by decide +kernel
theorem dL_law_477 : decode cL_law 477 = .ok (.aload_n 1, 1) := by decide +kernel
theorem dL_law_478 : decode cL_law 478 = .ok (.aload_n 0, 1) := by decide +kernel
theorem dL_law_479 : decode cL_law 479 = .ok (.iload_n 3, 1) := by decide +kernel
theorem dL_law_480 : decode cL_law 480 = .ok (.iconst 1, 1) := by decide +kernel
theorem dL_law_481 : decode cL_law 481 = .ok (.iadd, 1) := by decide +kernel
theorem dL_law_482 : decode cL_law 482 = .ok (.iaload, 1) := by decide +kernel
theorem dL_law_483 : decode cL_law 483 = .ok (.aload_n 0, 1) := by decide +kernel
theorem dL_law_484 : decode cL_law 484 = .ok (.iload_n 3, 1) := by decide +kernel
theorem dL_law_485 : decode cL_law 485 = .ok (.iconst 2, 1) := by decide +kernel
theorem dL_law_486 : decode cL_law 486 = .ok (.iadd, 1) := by decide +kernel
theorem dL_law_487 : decode cL_law 487 = .ok (.iaload, 1) := by decide +kernel
theorem dL_law_488 : decode cL_law 488 = .ok (.invokevirtual 76, 3) := by decide +kernel
theorem dL_law_491 : decode cL_law 491 = .ok (.aload_n 2, 1) := by decide +kernel
theorem dL_law_492 : decode cL_law 492 = .ok (.aload_n 0, 1) := by decide +kernel
theorem dL_law_493 : decode cL_law 493 = .ok (.iload_n 3, 1) := by decide +kernel
theorem dL_law_494 : decode cL_law 494 = .ok (.iconst 1, 1) := by decide +kernel
theorem dL_law_495 : decode cL_law 495 = .ok (.iadd, 1) := by decide +kernel
theorem dL_law_496 : decode cL_law 496 = .ok (.iaload, 1) := by decide +kernel
theorem dL_law_497 : decode cL_law 497 = .ok (.aload_n 0, 1) := by decide +kernel
theorem dL_law_498 : decode cL_law 498 = .ok (.iload_n 3, 1) := by decide +kernel
theorem dL_law_499 : decode cL_law 499 = .ok (.iconst 2, 1) := by decide +kernel
theorem dL_law_500 : decode cL_law 500 = .ok (.iadd, 1) := by decide +kernel
theorem dL_law_501 : decode cL_law 501 = .ok (.iaload, 1) := by decide +kernel
theorem dL_law_502 : decode cL_law 502 = .ok (.invokevirtual 79, 3) := by decide +kernel
theorem dL_law_505 : decode cL_law 505 = .ok (.if_icmp .eq 120, 3) := by decide +kernel
theorem dL_law_508 : decode cL_law 508 = .ok (.iconst 0, 1) := by decide +kernel
theorem dL_law_509 : decode cL_law 509 = .ok (.ireturn, 1) := by decide +kernel
theorem dL_law_510 : decode cL_law 510 = .ok (.aload_n 1, 1) := by decide +kernel
theorem dL_law_511 : decode cL_law 511 = .ok (.aload_n 0, 1) := by decide +kernel
theorem dL_law_512 : decode cL_law 512 = .ok (.iload_n 3, 1) := by decide +kernel
theorem dL_law_513 : decode cL_law 513 = .ok (.iconst 1, 1) := by decide +kernel
theorem dL_law_514 : decode cL_law 514 = .ok (.iadd, 1) := by decide +kernel
theorem dL_law_515 : decode cL_law 515 = .ok (.iaload, 1) := by decide +kernel
theorem dL_law_516 : decode cL_law 516 = .ok (.invokevirtual 80, 3) := by decide +kernel
theorem dL_law_519 : decode cL_law 519 = .ok (.aload_n 2, 1) := by decide +kernel
theorem dL_law_520 : decode cL_law 520 = .ok (.aload_n 0, 1) := by decide +kernel
theorem dL_law_521 : decode cL_law 521 = .ok (.iload_n 3, 1) := by decide +kernel
theorem dL_law_522 : decode cL_law 522 = .ok (.iconst 1, 1) := by decide +kernel
theorem dL_law_523 : decode cL_law 523 = .ok (.iadd, 1) := by decide +kernel
theorem dL_law_524 : decode cL_law 524 = .ok (.iaload, 1) := by decide +kernel
theorem dL_law_525 : decode cL_law 525 = .ok (.invokevirtual 83, 3) := by decide +kernel
theorem dL_law_528 : decode cL_law 528 = .ok (.if_icmp .eq 97, 3) := by decide +kernel
theorem dL_law_531 : decode cL_law 531 = .ok (.iconst 0, 1) := by decide +kernel
theorem dL_law_532 : decode cL_law 532 = .ok (.ireturn, 1) := by decide +kernel
theorem dL_law_533 : decode cL_law 533 = .ok (.aload_n 1, 1) := by decide +kernel
theorem dL_law_534 : decode cL_law 534 = .ok (.aload_n 0, 1) := by decide +kernel
theorem dL_law_535 : decode cL_law 535 = .ok (.iload_n 3, 1) := by decide +kernel
theorem dL_law_536 : decode cL_law 536 = .ok (.iconst 1, 1) := by decide +kernel
theorem dL_law_537 : decode cL_law 537 = .ok (.iadd, 1) := by decide +kernel
theorem dL_law_538 : decode cL_law 538 = .ok (.iaload, 1) := by decide +kernel
theorem dL_law_539 : decode cL_law 539 = .ok (.invokevirtual 84, 3) := by decide +kernel
theorem dL_law_542 : decode cL_law 542 = .ok (.aload_n 2, 1) := by decide +kernel
theorem dL_law_543 : decode cL_law 543 = .ok (.aload_n 0, 1) := by decide +kernel
theorem dL_law_544 : decode cL_law 544 = .ok (.iload_n 3, 1) := by decide +kernel
theorem dL_law_545 : decode cL_law 545 = .ok (.iconst 1, 1) := by decide +kernel
theorem dL_law_546 : decode cL_law 546 = .ok (.iadd, 1) := by decide +kernel
theorem dL_law_547 : decode cL_law 547 = .ok (.iaload, 1) := by decide +kernel
theorem dL_law_548 : decode cL_law 548 = .ok (.invokevirtual 87, 3) := by decide +kernel
theorem dL_law_551 : decode cL_law 551 = .ok (.if_icmp .eq 74, 3) := by decide +kernel
theorem dL_law_554 : decode cL_law 554 = .ok (.iconst 0, 1) := by decide +kernel
theorem dL_law_555 : decode cL_law 555 = .ok (.ireturn, 1) := by decide +kernel
theorem dL_law_556 : decode cL_law 556 = .ok (.aload_n 1, 1) := by decide +kernel
theorem dL_law_557 : decode cL_law 557 = .ok (.aload_n 0, 1) := by decide +kernel
theorem dL_law_558 : decode cL_law 558 = .ok (.iload_n 3, 1) := by decide +kernel
theorem dL_law_559 : decode cL_law 559 = .ok (.iconst 1, 1) := by decide +kernel
theorem dL_law_560 : decode cL_law 560 = .ok (.iadd, 1) := by decide +kernel
theorem dL_law_561 : decode cL_law 561 = .ok (.iaload, 1) := by decide +kernel
theorem dL_law_562 : decode cL_law 562 = .ok (.invokevirtual 88, 3) := by decide +kernel
theorem dL_law_565 : decode cL_law 565 = .ok (.aload_n 2, 1) := by decide +kernel
theorem dL_law_566 : decode cL_law 566 = .ok (.aload_n 0, 1) := by decide +kernel
theorem dL_law_567 : decode cL_law 567 = .ok (.iload_n 3, 1) := by decide +kernel
theorem dL_law_568 : decode cL_law 568 = .ok (.iconst 1, 1) := by decide +kernel
theorem dL_law_569 : decode cL_law 569 = .ok (.iadd, 1) := by decide +kernel
theorem dL_law_570 : decode cL_law 570 = .ok (.iaload, 1) := by decide +kernel
theorem dL_law_571 : decode cL_law 571 = .ok (.invokevirtual 91, 3) := by decide +kernel
theorem dL_law_574 : decode cL_law 574 = .ok (.if_icmp .eq 51, 3) := by decide +kernel
theorem dL_law_577 : decode cL_law 577 = .ok (.iconst 0, 1) := by decide +kernel
theorem dL_law_578 : decode cL_law 578 = .ok (.ireturn, 1) := by decide +kernel
theorem dL_law_579 : decode cL_law 579 = .ok (.aload_n 1, 1) := by decide +kernel
theorem dL_law_580 : decode cL_law 580 = .ok (.aload_n 0, 1) := by decide +kernel
theorem dL_law_581 : decode cL_law 581 = .ok (.iload_n 3, 1) := by decide +kernel
theorem dL_law_582 : decode cL_law 582 = .ok (.iconst 1, 1) := by decide +kernel
theorem dL_law_583 : decode cL_law 583 = .ok (.iadd, 1) := by decide +kernel
theorem dL_law_584 : decode cL_law 584 = .ok (.iaload, 1) := by decide +kernel
theorem dL_law_585 : decode cL_law 585 = .ok (.invokevirtual 92, 3) := by decide +kernel
theorem dL_law_588 : decode cL_law 588 = .ok (.aload_n 2, 1) := by decide +kernel
theorem dL_law_589 : decode cL_law 589 = .ok (.aload_n 0, 1) := by decide +kernel
theorem dL_law_590 : decode cL_law 590 = .ok (.iload_n 3, 1) := by decide +kernel
theorem dL_law_591 : decode cL_law 591 = .ok (.iconst 1, 1) := by decide +kernel
theorem dL_law_592 : decode cL_law 592 = .ok (.iadd, 1) := by decide +kernel
theorem dL_law_593 : decode cL_law 593 = .ok (.iaload, 1) := by decide +kernel
theorem dL_law_594 : decode cL_law 594 = .ok (.invokevirtual 95, 3) := by decide +kernel
theorem dL_law_597 : decode cL_law 597 = .ok (.if_icmp .eq 28, 3) := by decide +kernel
theorem dL_law_600 : decode cL_law 600 = .ok (.iconst 0, 1) := by decide +kernel
theorem dL_law_601 : decode cL_law 601 = .ok (.ireturn, 1) := by decide +kernel
theorem dL_law_602 : decode cL_law 602 = .ok (.aload_n 1, 1) := by decide +kernel
theorem dL_law_603 : decode cL_law 603 = .ok (.aload_n 0, 1) := by decide +kernel
theorem dL_law_604 : decode cL_law 604 = .ok (.iload_n 3, 1) := by decide +kernel
theorem dL_law_605 : decode cL_law 605 = .ok (.iconst 1, 1) := by decide +kernel
theorem dL_law_606 : decode cL_law 606 = .ok (.iadd, 1) := by decide +kernel
theorem dL_law_607 : decode cL_law 607 = .ok (.iaload, 1) := by decide +kernel
theorem dL_law_608 : decode cL_law 608 = .ok (.invokevirtual 96, 3) := by decide +kernel
theorem dL_law_611 : decode cL_law 611 = .ok (.aload_n 2, 1) := by decide +kernel
theorem dL_law_612 : decode cL_law 612 = .ok (.aload_n 0, 1) := by decide +kernel
theorem dL_law_613 : decode cL_law 613 = .ok (.iload_n 3, 1) := by decide +kernel
theorem dL_law_614 : decode cL_law 614 = .ok (.iconst 1, 1) := by decide +kernel
theorem dL_law_615 : decode cL_law 615 = .ok (.iadd, 1) := by decide +kernel
theorem dL_law_616 : decode cL_law 616 = .ok (.iaload, 1) := by decide +kernel
theorem dL_law_617 : decode cL_law 617 = .ok (.invokevirtual 99, 3) := by decide +kernel
theorem dL_law_620 : decode cL_law 620 = .ok (.if_icmp .eq 5, 3) := by decide +kernel
theorem dL_law_623 : decode cL_law 623 = .ok (.iconst 0, 1) := by decide +kernel
theorem dL_law_624 : decode cL_law 624 = .ok (.ireturn, 1) := by decide +kernel
theorem dL_law_625 : decode cL_law 625 = .ok (.iinc 3 3, 3) := by decide +kernel
theorem dL_law_628 : decode cL_law 628 = .ok (.goto (-610), 3) := by decide +kernel
theorem dL_law_631 : decode cL_law 631 = .ok (.iconst 1, 1) := by decide +kernel
theorem dL_law_632 : decode cL_law 632 = .ok (.ireturn, 1) := by decide +kernel
abbrev vwCl : List vw_C := [(RX0, TX0, 3), (RX1, TX1, 3), (RX2, TX2, 2), (RX3, TX3, 5), (RX4, TX4, 8), (RX5, TX5, 10)]

