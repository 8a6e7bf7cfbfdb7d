theorem dX5_knownOn_1 : decode cX5_knownOn 1 = .ok (.istore_n 3, 1) := by decide +kernel
theorem dX5_knownOn_2 : decode cX5_knownOn 2 = .ok (.iconst 0, 1) := by decide +kernel
theorem dX5_knownOn_3 : decode cX5_knownOn 3 = .ok (.istore 4, 2) := by decide +kernel
theorem dX5_knownOn_5 : decode cX5_knownOn 5 = .ok (.iload 4, 2) := by decide +kernel
theorem dX5_knownOn_7 : decode cX5_knownOn 7 = .ok (.iload_n 2, 1) := by decide +kernel
theorem dX5_knownOn_8 : decode cX5_knownOn 8 = .ok (.if_icmp .ge 15, 3) := by decide +kernel
theorem dX5_knownOn_11 : decode cX5_knownOn 11 = .ok (.aload_n 0, 1) := by decide +kernel
theorem dX5_knownOn_12 : decode cX5_knownOn 12 = .ok (.iload_n 3, 1) := by decide +kernel
theorem dX5_knownOn_13 : decode cX5_knownOn 13 = .ok (.invokevirtual 77, 3) := by decide +kernel
theorem dX5_knownOn_16 : decode cX5_knownOn 16 = .ok (.istore_n 3, 1) := by decide +kernel
theorem dX5_knownOn_17 : decode cX5_knownOn 17 = .ok (.iinc 4 1, 3) := by decide +kernel
theorem dX5_knownOn_20 : decode cX5_knownOn 20 = .ok (.goto (-15), 3) := by decide +kernel
theorem dX5_knownOn_23 : decode cX5_knownOn 23 = .ok (.iload_n 3, 1) := by decide +kernel
theorem dX5_knownOn_24 : decode cX5_knownOn 24 = .ok (.ireturn, 1) := by decide +kernel
set_option maxRecDepth 20000 in
theorem ggX5_grounds_X5_isSet : GoodIn wsX5_grounds wsX5_isSet := goodIn_r _ [5, 6, 7, 8, 4, 9, 10, 11, 12, 13, 23, 24, 25, 26, 27, 28, 29, 30, 31, 32] (by decide +kernel) (by decide +kernel)
set_option maxRecDepth 20000 in
theorem gX5_grounds_X5_isSet : GoodIn wsX5_grounds (wsV RX5 80 RX5 yX5_isSet wsX5_isSet) := goodIn_app (goodIn_of _ (by decide +kernel)) ggX5_grounds_X5_isSet
set_option maxRecDepth 20000 in
theorem ggX5_grounds_X5_knownOn : GoodIn wsX5_grounds wsX5_knownOn := goodIn_r _ [17, 18, 19, 20, 4, 21, 10, 22, 23, 24, 25, 26, 27, 28, 29, 30, 31, 32] (by decide +kernel) (by decide +kernel)
set_option maxRecDepth 20000 in
theorem gX5_grounds_X5_knownOn : GoodIn wsX5_grounds (wsV RX5 83 RX5 yX5_knownOn wsX5_knownOn) := goodIn_app (goodIn_of _ (by decide +kernel)) ggX5_grounds_X5_knownOn
theorem dX5_grounds_0 : decode cX5_grounds 0 = .ok (.aload_n 0, 1) := by decide +kernel
theorem dX5_grounds_1 : decode cX5_grounds 1 = .ok (.iload_n 1, 1) := by decide +kernel
theorem dX5_grounds_2 : decode cX5_grounds 2 = .ok (.invokevirtual 80, 3) := by decide +kernel
theorem dX5_grounds_5 : decode cX5_grounds 5 = .ok (.ifCond .eq 13, 3) := by decide +kernel
theorem dX5_grounds_8 : decode cX5_grounds 8 = .ok (.aload_n 0, 1) := by decide +kernel
theorem dX5_grounds_9 : decode cX5_grounds 9 = .ok (.iload_n 1, 1) := by decide +kernel
theorem dX5_grounds_10 : decode cX5_grounds 10 = .ok (.bipush 14, 2) := by decide +kernel
theorem dX5_grounds_12 : decode cX5_grounds 12 = .ok (.invokevirtual 83, 3) := by decide +kernel
theorem dX5_grounds_15 : decode cX5_grounds 15 = .ok (.goto 5, 3) := by decide +kernel
theorem dX5_grounds_18 : decode cX5_grounds 18 = .ok (.bipush (-2), 2) := by decide +kernel
theorem dX5_grounds_20 : decode cX5_grounds 20 = .ok (.ireturn, 1) := by decide +kernel
set_option maxRecDepth 20000 in
theorem ggX5_day_X5_isWord : GoodIn wsX5_day wsX5_isWord := goodIn_r _ [5, 6, 7, 8, 4, 9, 30, 31, 32, 33, 34, 35, 36, 37, 38, 39] (by decide +kernel) (by decide +kernel)
set_option maxRecDepth 20000 in
theorem gX5_day_X5_isWord : GoodIn wsX5_day (wsV RX5 50 RX5 yX5_isWord wsX5_isWord) := goodIn_app (goodIn_of _ (by decide +kernel)) ggX5_day_X5_isWord
set_option maxRecDepth 20000 in
theorem ggX5_day_X5_isSet : GoodIn wsX5_day wsX5_isSet := goodIn_r _ [13, 14, 15, 16, 4, 17, 6, 7, 8, 9, 30, 31, 32, 33, 34, 35, 36, 37, 38, 39] (by decide +kernel) (by decide +kernel)
set_option maxRecDepth 20000 in
theorem gX5_day_X5_isSet : GoodIn wsX5_day (wsV RX5 80 RX5 yX5_isSet wsX5_isSet) := goodIn_app (goodIn_of _ (by decide +kernel)) ggX5_day_X5_isSet
set_option maxRecDepth 20000 in
theorem ggX5_day_X5_knownOn : GoodIn wsX5_day wsX5_knownOn := goodIn_r _ [21, 22, 23, 24, 4, 25, 6, 26, 30, 31, 32, 33, 34, 35, 36, 37, 38, 39] (by decide +kernel) (by decide +kernel)
set_option maxRecDepth 20000 in
theorem gX5_day_X5_knownOn : GoodIn wsX5_day (wsV RX5 83 RX5 yX5_knownOn wsX5_knownOn) := goodIn_app (goodIn_of _ (by decide +kernel)) ggX5_day_X5_knownOn
set_option maxRecDepth 20000 in
theorem ggX5_day_X5_has : GoodIn wsX5_day wsX5_has := goodIn_r _ [29] (by decide +kernel) (by decide +kernel)
set_option maxRecDepth 20000 in
theorem gX5_day_X5_has : GoodIn wsX5_day (va_wsS RX5 58 yX5_has wsX5_has) := goodIn_app (goodIn_of _ (by decide +kernel)) ggX5_day_X5_has
theorem dX5_day_0 : decode cX5_day 0 = .ok (.aload_n 0, 1) := by decide +kernel
theorem dX5_day_1 : decode cX5_day 1 = .ok (.iload_n 1, 1) := by decide +kernel
theorem dX5_day_2 : decode cX5_day 2 = .ok (.invokevirtual 50, 3) := by decide +kernel
theorem dX5_day_5 : decode cX5_day 5 = .ok (.ifCond .ne 5, 3) := by decide +kernel
theorem dX5_day_8 : decode cX5_day 8 = .ok (.iconst (-1), 1) := by decide +kernel
theorem dX5_day_9 : decode cX5_day 9 = .ok (.ireturn, 1) := by decide +kernel
theorem dX5_day_10 : decode cX5_day 10 = .ok (.aload_n 0, 1) := by decide +kernel
theorem dX5_day_11 : decode cX5_day 11 = .ok (.iload_n 2, 1) := by decide +kernel
theorem dX5_day_12 : decode cX5_day 12 = .ok (.invokevirtual 80, 3) := by decide +kernel
theorem dX5_day_15 : decode cX5_day 15 = .ok (.ifCond .ne 6, 3) := by decide +kernel
theorem dX5_day_18 : decode cX5_day 18 = .ok (.bipush (-2), 2) := by decide +kernel
theorem dX5_day_20 : decode cX5_day 20 = .ok (.ireturn, 1) := by decide +kernel
theorem dX5_day_21 : decode cX5_day 21 = .ok (.bipush (-6), 2) := by decide +kernel
theorem dX5_day_23 : decode cX5_day 23 = .ok (.istore_n 3, 1) := by decide +kernel
theorem dX5_day_24 : decode cX5_day 24 = .ok (.bipush 14, 2) := by decide +kernel
theorem dX5_day_26 : decode cX5_day 26 = .ok (.istore 4, 2) := by decide +kernel
theorem dX5_day_28 : decode cX5_day 28 = .ok (.iload 4, 2) := by decide +kernel
theorem dX5_day_30 : decode cX5_day 30 = .ok (.ifCond .lt 30, 3) := by decide +kernel
theorem dX5_day_33 : decode cX5_day 33 = .ok (.aload_n 0, 1) := by decide +kernel
theorem dX5_day_34 : decode cX5_day 34 = .ok (.iload_n 2, 1) := by decide +kernel
theorem dX5_day_35 : decode cX5_day 35 = .ok (.iload 4, 2) := by decide +kernel
theorem dX5_day_37 : decode cX5_day 37 = .ok (.invokevirtual 83, 3) := by decide +kernel
theorem dX5_day_40 : decode cX5_day 40 = .ok (.iload_n 1, 1) := by decide +kernel
theorem dX5_day_41 : decode cX5_day 41 = .ok (.invokestatic 58, 3) := by decide +kernel
theorem dX5_day_44 : decode cX5_day 44 = .ok (.ifCond .eq 8, 3) := by decide +kernel
theorem dX5_day_47 : decode cX5_day 47 = .ok (.iload 4, 2) := by decide +kernel
theorem dX5_day_49 : decode cX5_day 49 = .ok (.goto 4, 3) := by decide +kernel
theorem dX5_day_52 : decode cX5_day 52 = .ok (.iload_n 3, 1) := by decide +kernel
theorem dX5_day_53 : decode cX5_day 53 = .ok (.istore_n 3, 1) := by decide +kernel
theorem dX5_day_54 : decode cX5_day 54 = .ok (.iinc 4 (-1), 3) := by decide +kernel
theorem dX5_day_57 : decode cX5_day 57 = .ok (.goto (-29), 3) := by decide +kernel
theorem dX5_day_60 : decode cX5_day 60 = .ok (.iload_n 3, 1) := by decide +kernel
theorem dX5_day_61 : decode cX5_day 61 = .ok (.ireturn, 1) := by decide +kernel
set_option maxRecDepth 20000 in
theorem ggX5_learned_X5_isSet : GoodIn wsX5_learned wsX5_isSet := goodIn_r _ [5, 6, 7, 8, 4, 9, 10, 11, 12, 13, 23, 24, 25, 26, 27, 28, 29, 30, 31, 32] (by decide +kernel) (by decide +kernel)
set_option maxRecDepth 20000 in
theorem gX5_learned_X5_isSet : GoodIn wsX5_learned (wsV RX5 80 RX5 yX5_isSet wsX5_isSet) := goodIn_app (goodIn_of _ (by decide +kernel)) ggX5_learned_X5_isSet
set_option maxRecDepth 20000 in
theorem ggX5_learned_X5_in : GoodIn wsX5_learned wsX5_in := goodIn_r _ [13] (by decide +kernel) (by decide +kernel)
set_option maxRecDepth 20000 in
theorem gX5_learned_X5_in : GoodIn wsX5_learned (va_wsS RX5 36 yX5_in wsX5_in) := goodIn_app (goodIn_of _ (by decide +kernel)) ggX5_learned_X5_in
set_option maxRecDepth 20000 in
theorem ggX5_learned_X5_knownOn : GoodIn wsX5_learned wsX5_knownOn := goodIn_r _ [17, 18, 19, 20, 4, 21, 10, 22, 23, 24, 25, 26, 27, 28, 29, 30, 31, 32] (by decide +kernel) (by decide +kernel)
set_option maxRecDepth 20000 in
theorem gX5_learned_X5_knownOn : GoodIn wsX5_learned (wsV RX5 83 RX5 yX5_knownOn wsX5_knownOn) := goodIn_app (goodIn_of _ (by decide +kernel)) ggX5_learned_X5_knownOn
theorem dX5_learned_0 : decode cX5_learned 0 = .ok (.aload_n 0, 1) := by decide +kernel
theorem dX5_learned_1 : decode cX5_learned 1 = .ok (.iload_n 1, 1) := by decide +kernel
theorem dX5_learned_2 : decode cX5_learned 2 = .ok (.invokevirtual 80, 3) := by decide +kernel
theorem dX5_learned_5 : decode cX5_learned 5 = .ok (.ifCond .eq 13, 3) := by decide +kernel
theorem dX5_learned_8 : decode cX5_learned 8 = .ok (.iload_n 2, 1) := by decide +kernel
theorem dX5_learned_9 : decode cX5_learned 9 = .ok (.iconst 1, 1) := by decide +kernel
theorem dX5_learned_10 : decode cX5_learned 10 = .ok (.bipush 14, 2) := by decide +kernel
theorem dX5_learned_12 : decode cX5_learned 12 = .ok (.invokestatic 36, 3) := by decide +kernel
theorem dX5_learned_15 : decode cX5_learned 15 = .ok (.ifCond .ne 6, 3) := by decide +kernel
theorem dX5_learned_18 : decode cX5_learned 18 = .ok (.bipush (-2), 2) := by decide +kernel
theorem dX5_learned_20 : decode cX5_learned 20 = .ok (.ireturn, 1) := by decide +kernel
theorem dX5_learned_21 : decode cX5_learned 21 = .ok (.aload_n 0, 1) := by decide +kernel
theorem dX5_learned_22 : decode cX5_learned 22 = .ok (.iload_n 1, 1) := by decide +kernel
theorem dX5_learned_23 : decode cX5_learned 23 = .ok (.iload_n 2, 1) := by decide +kernel
theorem dX5_learned_24 : decode cX5_learned 24 = .ok (.invokevirtual 83, 3) := by decide +kernel
theorem dX5_learned_27 : decode cX5_learned 27 = .ok (.aload_n 0, 1) := by decide +kernel
theorem dX5_learned_28 : decode cX5_learned 28 = .ok (.iload_n 1, 1) := by decide +kernel
theorem dX5_learned_29 : decode cX5_learned 29 = .ok (.iload_n 2, 1) := by decide +kernel
theorem dX5_learned_30 : decode cX5_learned 30 = .ok (.iconst 1, 1) := by decide +kernel
theorem dX5_learned_31 : decode cX5_learned 31 = .ok (.isub, 1) := by decide +kernel
theorem dX5_learned_32 : decode cX5_learned 32 = .ok (.invokevirtual 83, 3) := by decide +kernel
theorem dX5_learned_35 : decode cX5_learned 35 = .ok (.iconst (-1), 1) := by decide +kernel
theorem dX5_learned_36 : decode cX5_learned 36 = .ok (.ixor, 1) := by decide +kernel
theorem dX5_learned_37 : decode cX5_learned 37 = .ok (.iand, 1) := by decide +kernel
theorem dX5_learned_38 : decode cX5_learned 38 = .ok (.ireturn, 1) := by decide +kernel
set_option maxRecDepth 20000 in
theorem ggX5_know_X5_isSet : GoodIn wsX5_know wsX5_isSet := goodIn_r _ [6, 7, 8, 9, 5, 10, 11, 12, 13, 14, 15, 16, 17, 18, 19, 20, 21, 22, 23, 24] (by decide +kernel) (by decide +kernel)
set_option maxRecDepth 20000 in
theorem gX5_know_X5_isSet : GoodIn wsX5_know (wsV RX5 80 RX5 yX5_isSet wsX5_isSet) := goodIn_app (goodIn_of _ (by decide +kernel)) ggX5_know_X5_isSet
theorem dX5_know_0 : decode cX5_know 0 = .ok (.aload_n 0, 1) := by decide +kernel
theorem dX5_know_1 : decode cX5_know 1 = .ok (.iload_n 1, 1) := by decide +kernel
theorem dX5_know_2 : decode cX5_know 2 = .ok (.invokevirtual 80, 3) := by decide +kernel
theorem dX5_know_5 : decode cX5_know 5 = .ok (.ifCond .ne 6, 3) := by decide +kernel
theorem dX5_know_8 : decode cX5_know 8 = .ok (.bipush (-2), 2) := by decide +kernel
theorem dX5_know_10 : decode cX5_know 10 = .ok (.ireturn, 1) := by decide +kernel
theorem dX5_know_11 : decode cX5_know 11 = .ok (.aload_n 0, 1) := by decide +kernel
theorem dX5_know_12 : decode cX5_know 12 = .ok (.getfield 44, 3) := by decide +kernel
theorem dX5_know_15 : decode cX5_know 15 = .ok (.istore_n 2, 1) := by decide +kernel
theorem dX5_know_16 : decode cX5_know 16 = .ok (.aload_n 0, 1) := by decide +kernel
theorem dX5_know_17 : decode cX5_know 17 = .ok (.iload_n 1, 1) := by decide +kernel
theorem dX5_know_18 : decode cX5_know 18 = .ok (.putfield 44, 3) := by decide +kernel
theorem dX5_know_21 : decode cX5_know 21 = .ok (.iload_n 2, 1) := by decide +kernel
theorem dX5_know_22 : decode cX5_know 22 = .ok (.ireturn, 1) := by decide +kernel
set_option maxRecDepth 20000 in
theorem ggX5_costOf_X5_has : GoodIn wsX5_costOf wsX5_has := goodIn_r _ [6] (by decide +kernel) (by decide +kernel)
set_option maxRecDepth 20000 in
theorem gX5_costOf_X5_has : GoodIn wsX5_costOf (va_wsS RX5 58 yX5_has wsX5_has) := goodIn_app (goodIn_of _ (by decide +kernel)) ggX5_costOf_X5_has
theorem dX5_costOf_0 : decode cX5_costOf 0 = .ok (.iconst 0, 1) := by decide +kernel
theorem dX5_costOf_1 : decode cX5_costOf 1 = .ok (.istore_n 2, 1) := by decide +kernel
theorem dX5_costOf_2 : decode cX5_costOf 2 = .ok (.iconst 0, 1) := by decide +kernel
theorem dX5_costOf_3 : decode cX5_costOf 3 = .ok (.istore_n 3, 1) := by decide +kernel
theorem dX5_costOf_4 : decode cX5_costOf 4 = .ok (.iload_n 3, 1) := by decide +kernel
theorem dX5_costOf_5 : decode cX5_costOf 5 = .ok (.aload_n 0, 1) := by decide +kernel
theorem dX5_costOf_6 : decode cX5_costOf 6 = .ok (.getfield 7, 3) := by decide +kernel
theorem dX5_costOf_9 : decode cX5_costOf 9 = .ok (.if_icmp .ge 30, 3) := by decide +kernel
theorem dX5_costOf_12 : decode cX5_costOf 12 = .ok (.iload_n 2, 1) := by decide +kernel
theorem dX5_costOf_13 : decode cX5_costOf 13 = .ok (.iload_n 1, 1) := by decide +kernel
theorem dX5_costOf_14 : decode cX5_costOf 14 = .ok (.iload_n 3, 1) := by decide +kernel
theorem dX5_costOf_15 : decode cX5_costOf 15 = .ok (.invokestatic 58, 3) := by decide +kernel
theorem dX5_costOf_18 : decode cX5_costOf 18 = .ok (.ifCond .eq 12, 3) := by decide +kernel
theorem dX5_costOf_21 : decode cX5_costOf 21 = .ok (.aload_n 0, 1) := by decide +kernel
theorem dX5_costOf_22 : decode cX5_costOf 22 = .ok (.getfield 17, 3) := by decide +kernel
theorem dX5_costOf_25 : decode cX5_costOf 25 = .ok (.iload_n 3, 1) := by decide +kernel
theorem dX5_costOf_26 : decode cX5_costOf 26 = .ok (.iaload, 1) := by decide +kernel
theorem dX5_costOf_27 : decode cX5_costOf 27 = .ok (.goto 4, 3) := by decide +kernel
theorem dX5_costOf_30 : decode cX5_costOf 30 = .ok (.iconst 0, 1) := by decide +kernel
theorem dX5_costOf_31 : decode cX5_costOf 31 = .ok (.iadd, 1) := by decide +kernel
theorem dX5_costOf_32 : decode cX5_costOf 32 = .ok (.istore_n 2, 1) := by decide +kernel
theorem dX5_costOf_33 : decode cX5_costOf 33 = .ok (.iinc 3 1, 3) := by decide +kernel
theorem dX5_costOf_36 : decode cX5_costOf 36 = .ok (.goto (-32), 3) := by decide +kernel
theorem dX5_costOf_39 : decode cX5_costOf 39 = .ok (.iload_n 2, 1) := by decide +kernel
theorem dX5_costOf_40 : decode cX5_costOf 40 = .ok (.ireturn, 1) := by decide +kernel
set_option maxRecDepth 20000 in
theorem ggX5_isBetter_X5_costOf : GoodIn wsX5_isBetter wsX5_costOf := goodIn_r _ [5, 6, 7, 8, 9, 4, 10, 14, 15, 16, 17, 18, 19, 20, 21, 22, 23] (by decide +kernel) (by decide +kernel)
set_option maxRecDepth 20000 in
theorem gX5_isBetter_X5_costOf : GoodIn wsX5_isBetter (wsV RX5 87 RX5 yX5_costOf wsX5_costOf) := goodIn_app (goodIn_of _ (by decide +kernel)) ggX5_isBetter_X5_costOf
set_option maxRecDepth 20000 in
theorem ggX5_isBetter_X5_bits : GoodIn wsX5_isBetter wsX5_bits := goodIn_r _ [13] (by decide +kernel) (by decide +kernel)
set_option maxRecDepth 20000 in
theorem gX5_isBetter_X5_bits : GoodIn wsX5_isBetter (va_wsS RX5 68 yX5_bits wsX5_bits) := goodIn_app (goodIn_of _ (by decide +kernel)) ggX5_isBetter_X5_bits
theorem dX5_isBetter_0 : decode cX5_isBetter 0 = .ok (.aload_n 0, 1) := by decide +kernel
theorem dX5_isBetter_1 : decode cX5_isBetter 1 = .ok (.iload_n 1, 1) := by decide +kernel
theorem dX5_isBetter_2 : decode cX5_isBetter 2 = .ok (.invokevirtual 87, 3) := by decide +kernel
theorem dX5_isBetter_5 : decode cX5_isBetter 5 = .ok (.aload_n 0, 1) := by decide +kernel
theorem dX5_isBetter_6 : decode cX5_isBetter 6 = .ok (.iload_n 2, 1) := by decide +kernel
theorem dX5_isBetter_7 : decode cX5_isBetter 7 = .ok (.invokevirtual 87, 3) := by decide +kernel
theorem dX5_isBetter_10 : decode cX5_isBetter 10 = .ok (.if_icmp .eq 22, 3) := by decide +kernel
theorem dX5_isBetter_13 : decode cX5_isBetter 13 = .ok (.aload_n 0, 1) := by decide +kernel
theorem dX5_isBetter_14 : decode cX5_isBetter 14 = .ok (.iload_n 1, 1) := by decide +kernel
theorem dX5_isBetter_15 : decode cX5_isBetter 15 = .ok (.invokevirtual 87, 3) := by decide +kernel
theorem dX5_isBetter_18 : decode cX5_isBetter 18 = .ok (.aload_n 0, 1) := by decide +kernel
theorem dX5_isBetter_19 : decode cX5_isBetter 19 = .ok (.iload_n 2, 1) := by decide +kernel
theorem dX5_isBetter_20 : decode cX5_isBetter 20 = .ok (.invokevirtual 87, 3) := by decide +kernel
theorem dX5_isBetter_23 : decode cX5_isBetter 23 = .ok (.if_icmp .ge 7, 3) := by decide +kernel
theorem dX5_isBetter_26 : decode cX5_isBetter 26 = .ok (.iconst 1, 1) := by decide +kernel
theorem dX5_isBetter_27 : decode cX5_isBetter 27 = .ok (.goto 4, 3) := by decide +kernel
theorem dX5_isBetter_30 : decode cX5_isBetter 30 = .ok (.iconst 0, 1) := by decide +kernel
theorem dX5_isBetter_31 : decode cX5_isBetter 31 = .ok (.ireturn, 1) := by decide +kernel
theorem dX5_isBetter_32 : decode cX5_isBetter 32 = .ok (.iload_n 1, 1) := by decide +kernel
theorem dX5_isBetter_33 : decode cX5_isBetter 33 = .ok (.invokestatic 68, 3) := by decide +kernel
theorem dX5_isBetter_36 : decode cX5_isBetter 36 = .ok (.iload_n 2, 1) := by decide +kernel
theorem dX5_isBetter_37 : decode cX5_isBetter 37 = .ok (.invokestatic 68, 3) := by decide +kernel
theorem dX5_isBetter_40 : decode cX5_isBetter 40 = .ok (.if_icmp .ge 7, 3) := by decide +kernel
theorem dX5_isBetter_43 : decode cX5_isBetter 43 = .ok (.iconst 1, 1) := by decide +kernel
theorem dX5_isBetter_44 : decode cX5_isBetter 44 = .ok (.goto 4, 3) := by decide +kernel
theorem dX5_isBetter_47 : decode cX5_isBetter 47 = .ok (.iconst 0, 1) := by decide +kernel
theorem dX5_isBetter_48 : decode cX5_isBetter 48 = .ok (.ireturn, 1) := by decide +kernel
set_option maxRecDepth 20000 in
theorem ggX5_planFor_X5_all : GoodIn wsX5_planFor wsX5_all := goodIn_r _ [5, 6, 31, 32, 33, 34, 35, 36, 37, 38, 39, 40] (by decide +kernel) (by decide +kernel)
set_option maxRecDepth 20000 in
theorem gX5_planFor_X5_all : GoodIn wsX5_planFor (wsV RX5 40 RX5 yX5_all wsX5_all) := goodIn_app (goodIn_of _ (by decide +kernel)) ggX5_planFor_X5_all
set_option maxRecDepth 20000 in
theorem ggX5_planFor_X5_isBetter : GoodIn wsX5_planFor wsX5_isBetter := goodIn_r _ [10, 11, 12, 13, 4, 14, 6, 15, 16, 17, 18, 19, 20, 21, 31, 32, 33, 34, 35, 36, 37, 38, 39, 40] (by decide +kernel) (by decide +kernel)
set_option maxRecDepth 20000 in
theorem gX5_planFor_X5_isBetter : GoodIn wsX5_planFor (wsV RX5 90 RX5 yX5_isBetter wsX5_isBetter) := goodIn_app (goodIn_of _ (by decide +kernel)) ggX5_planFor_X5_isBetter
set_option maxRecDepth 20000 in
theorem ggX5_planFor_X5_knownOn : GoodIn wsX5_planFor wsX5_knownOn := goodIn_r _ [25, 26, 27, 28, 4, 29, 6, 30, 31, 32, 33, 34, 35, 36, 37, 38, 39, 40] (by decide +kernel) (by decide +kernel)
set_option maxRecDepth 20000 in
theorem gX5_planFor_X5_knownOn : GoodIn wsX5_planFor (wsV RX5 83 RX5 yX5_knownOn wsX5_knownOn) := goodIn_app (goodIn_of _ (by decide +kernel)) ggX5_planFor_X5_knownOn
theorem dX5_planFor_0 : decode cX5_planFor 0 = .ok (.aload_n 0, 1) := by decide +kernel
theorem dX5_planFor_1 : decode cX5_planFor 1 = .ok (.invokevirtual 40, 3) := by decide +kernel
theorem dX5_planFor_4 : decode cX5_planFor 4 = .ok (.iload_n 1, 1) := by decide +kernel
theorem dX5_planFor_5 : decode cX5_planFor 5 = .ok (.iconst (-1), 1) := by decide +kernel
theorem dX5_planFor_6 : decode cX5_planFor 6 = .ok (.ixor, 1) := by decide +kernel
theorem dX5_planFor_7 : decode cX5_planFor 7 = .ok (.iand, 1) := by decide +kernel
theorem dX5_planFor_8 : decode cX5_planFor 8 = .ok (.istore_n 2, 1) := by decide +kernel
theorem dX5_planFor_9 : decode cX5_planFor 9 = .ok (.iconst 0, 1) := by decide +kernel
theorem dX5_planFor_10 : decode cX5_planFor 10 = .ok (.istore_n 3, 1) := by decide +kernel
theorem dX5_planFor_11 : decode cX5_planFor 11 = .ok (.iload_n 3, 1) := by decide +kernel
theorem dX5_planFor_12 : decode cX5_planFor 12 = .ok (.aload_n 0, 1) := by decide +kernel
theorem dX5_planFor_13 : decode cX5_planFor 13 = .ok (.invokevirtual 40, 3) := by decide +kernel
theorem dX5_planFor_16 : decode cX5_planFor 16 = .ok (.if_icmp .gt 56, 3) := by decide +kernel
theorem dX5_planFor_19 : decode cX5_planFor 19 = .ok (.iload_n 3, 1) := by decide +kernel
theorem dX5_planFor_20 : decode cX5_planFor 20 = .ok (.iload_n 1, 1) := by decide +kernel
theorem dX5_planFor_21 : decode cX5_planFor 21 = .ok (.iand, 1) := by decide +kernel
theorem dX5_planFor_22 : decode cX5_planFor 22 = .ok (.ifCond .ne 44, 3) := by decide +kernel
theorem dX5_planFor_25 : decode cX5_planFor 25 = .ok (.aload_n 0, 1) := by decide +kernel
theorem dX5_planFor_26 : decode cX5_planFor 26 = .ok (.iload_n 3, 1) := by decide +kernel
theorem dX5_planFor_27 : decode cX5_planFor 27 = .ok (.iload_n 2, 1) := by decide +kernel
theorem dX5_planFor_28 : decode cX5_planFor 28 = .ok (.invokevirtual 90, 3) := by decide +kernel
theorem dX5_planFor_31 : decode cX5_planFor 31 = .ok (.ifCond .ne 17, 3) := by decide +kernel
theorem dX5_planFor_34 : decode cX5_planFor 34 = .ok (.iload_n 3, 1) := by decide +kernel
theorem dX5_planFor_35 : decode cX5_planFor 35 = .ok (.iload_n 2, 1) := by decide +kernel
theorem dX5_planFor_36 : decode cX5_planFor 36 = .ok (.if_icmp .ge 30, 3) := by decide +kernel
theorem dX5_planFor_39 : decode cX5_planFor 39 = .ok (.aload_n 0, 1) := by decide +kernel
theorem dX5_planFor_40 : decode cX5_planFor 40 = .ok (.iload_n 2, 1) := by decide +kernel
theorem dX5_planFor_41 : decode cX5_planFor 41 = .ok (.iload_n 3, 1) := by decide +kernel
theorem dX5_planFor_42 : decode cX5_planFor 42 = .ok (.invokevirtual 90, 3) := by decide +kernel
theorem dX5_planFor_45 : decode cX5_planFor 45 = .ok (.ifCond .ne 21, 3) := by decide +kernel
theorem dX5_planFor_48 : decode cX5_planFor 48 = .ok (.aload_n 0, 1) := by decide +kernel
theorem dX5_planFor_49 : decode cX5_planFor 49 = .ok (.iload_n 1, 1) := by decide +kernel
theorem dX5_planFor_50 : decode cX5_planFor 50 = .ok (.iload_n 3, 1) := by decide +kernel
theorem dX5_planFor_51 : decode cX5_planFor 51 = .ok (.ior, 1) := by decide +kernel
theorem dX5_planFor_52 : decode cX5_planFor 52 = .ok (.bipush 14, 2) := by decide +kernel
theorem dX5_planFor_54 : decode cX5_planFor 54 = .ok (.invokevirtual 83, 3) := by decide +kernel
theorem dX5_planFor_57 : decode cX5_planFor 57 = .ok (.aload_n 0, 1) := by decide +kernel
theorem dX5_planFor_58 : decode cX5_planFor 58 = .ok (.invokevirtual 40, 3) := by decide +kernel
theorem dX5_planFor_61 : decode cX5_planFor 61 = .ok (.if_icmp .ne 5, 3) := by decide +kernel
theorem dX5_planFor_64 : decode cX5_planFor 64 = .ok (.iload_n 3, 1) := by decide +kernel
theorem dX5_planFor_65 : decode cX5_planFor 65 = .ok (.istore_n 2, 1) := by decide +kernel
theorem dX5_planFor_66 : decode cX5_planFor 66 = .ok (.iinc 3 1, 3) := by decide +kernel
theorem dX5_planFor_69 : decode cX5_planFor 69 = .ok (.goto (-58), 3) := by decide +kernel
theorem dX5_planFor_72 : decode cX5_planFor 72 = .ok (.iload_n 2, 1) := by decide +kernel
theorem dX5_planFor_73 : decode cX5_planFor 73 = .ok (.ireturn, 1) := by decide +kernel
set_option maxRecDepth 20000 in
theorem ggX5_plan_X5_in : GoodIn wsX5_plan wsX5_in := goodIn_r _ [5] (by decide +kernel) (by decide +kernel)
set_option maxRecDepth 20000 in
theorem gX5_plan_X5_in : GoodIn wsX5_plan (va_wsS RX5 36 yX5_in wsX5_in) := goodIn_app (goodIn_of _ (by decide +kernel)) ggX5_plan_X5_in
set_option maxRecDepth 20000 in
theorem ggX5_plan_X5_planFor : GoodIn wsX5_plan wsX5_planFor := goodIn_r _ [9, 10, 11, 12, 4, 13, 14, 15, 16, 17, 18, 19, 20, 21, 22, 23, 24, 25, 26, 27, 28, 29, 30, 31, 32, 33, 34, 35, 36, 37, 38, 39, 40, 41, 42, 43, 44, 45, 46, 47, 48] (by decide +kernel) (by decide +kernel)
set_option maxRecDepth 20000 in
theorem gX5_plan_X5_planFor : GoodIn wsX5_plan (wsV RX5 93 RX5 yX5_planFor wsX5_planFor) := goodIn_app (goodIn_of _ (by decide +kernel)) ggX5_plan_X5_planFor
set_option maxRecDepth 20000 in
theorem ggX5_plan_X5_costOf : GoodIn wsX5_plan wsX5_costOf := goodIn_r _ [22, 14, 23, 24, 25, 4, 26, 39, 40, 41, 42, 43, 44, 45, 46, 47, 48] (by decide +kernel) (by decide +kernel)
set_option maxRecDepth 20000 in
theorem gX5_plan_X5_costOf : GoodIn wsX5_plan (wsV RX5 87 RX5 yX5_costOf wsX5_costOf) := goodIn_app (goodIn_of _ (by decide +kernel)) ggX5_plan_X5_costOf
set_option maxRecDepth 20000 in
theorem ggX5_plan_X5_bits : GoodIn wsX5_plan wsX5_bits := goodIn_r _ [29] (by decide +kernel) (by decide +kernel)
set_option maxRecDepth 20000 in
theorem gX5_plan_X5_bits : GoodIn wsX5_plan (va_wsS RX5 68 yX5_bits wsX5_bits) := goodIn_app (goodIn_of _ (by decide +kernel)) ggX5_plan_X5_bits
set_option maxRecDepth 20000 in
theorem ggX5_plan_X5_knownOn : GoodIn wsX5_plan wsX5_knownOn := goodIn_r _ [33, 34, 35, 36, 4, 37, 14, 38, 39, 40, 41, 42, 43, 44, 45, 46, 47, 48] (by decide +kernel) (by decide +kernel)
set_option maxRecDepth 20000 in
theorem gX5_plan_X5_knownOn : GoodIn wsX5_plan (wsV RX5 83 RX5 yX5_knownOn wsX5_knownOn) := goodIn_app (goodIn_of _ (by decide +kernel)) ggX5_plan_X5_knownOn
set_option maxRecDepth 20000 in
theorem ggX5_plan_X5_all : GoodIn wsX5_plan wsX5_all := goodIn_r _ [13, 14, 39, 40, 41, 42, 43, 44, 45, 46, 47, 48] (by decide +kernel) (by decide +kernel)
set_option maxRecDepth 20000 in
theorem gX5_plan_X5_all : GoodIn wsX5_plan (wsV RX5 40 RX5 yX5_all wsX5_all) := goodIn_app (goodIn_of _ (by decide +kernel)) ggX5_plan_X5_all
theorem dX5_plan_0 : decode cX5_plan 0 = .ok (.iload_n 1, 1) := by decide +kernel
theorem dX5_plan_1 : decode cX5_plan 1 = .ok (.iconst 0, 1) := by decide +kernel
theorem dX5_plan_2 : decode cX5_plan 2 = .ok (.iconst 3, 1) := by decide +kernel
theorem dX5_plan_3 : decode cX5_plan 3 = .ok (.invokestatic 36, 3) := by decide +kernel
theorem dX5_plan_6 : decode cX5_plan 6 = .ok (.ifCond .ne 6, 3) := by decide +kernel
theorem dX5_plan_9 : decode cX5_plan 9 = .ok (.bipush (-2), 2) := by decide +kernel
theorem dX5_plan_11 : decode cX5_plan 11 = .ok (.ireturn, 1) := by decide +kernel
theorem dX5_plan_12 : decode cX5_plan 12 = .ok (.aload_n 0, 1) := by decide +kernel
theorem dX5_plan_13 : decode cX5_plan 13 = .ok (.aload_n 0, 1) := by decide +kernel
theorem dX5_plan_14 : decode cX5_plan 14 = .ok (.getfield 44, 3) := by decide +kernel
theorem dX5_plan_17 : decode cX5_plan 17 = .ok (.invokevirtual 93, 3) := by decide +kernel
theorem dX5_plan_20 : decode cX5_plan 20 = .ok (.istore_n 2, 1) := by decide +kernel
theorem dX5_plan_21 : decode cX5_plan 21 = .ok (.iload_n 1, 1) := by decide +kernel
theorem dX5_plan_22 : decode cX5_plan 22 = .ok (.iconst 3, 1) := by decide +kernel
theorem dX5_plan_23 : decode cX5_plan 23 = .ok (.if_icmp .ge 29, 3) := by decide +kernel
theorem dX5_plan_26 : decode cX5_plan 26 = .ok (.iload_n 1, 1) := by decide +kernel
theorem dX5_plan_27 : decode cX5_plan 27 = .ok (.ifCond .ne 7, 3) := by decide +kernel
theorem dX5_plan_30 : decode cX5_plan 30 = .ok (.iload_n 2, 1) := by decide +kernel
theorem dX5_plan_31 : decode cX5_plan 31 = .ok (.goto 20, 3) := by decide +kernel
theorem dX5_plan_34 : decode cX5_plan 34 = .ok (.iload_n 1, 1) := by decide +kernel
theorem dX5_plan_35 : decode cX5_plan 35 = .ok (.iconst 1, 1) := by decide +kernel
theorem dX5_plan_36 : decode cX5_plan 36 = .ok (.if_icmp .ne 11, 3) := by decide +kernel
theorem dX5_plan_39 : decode cX5_plan 39 = .ok (.aload_n 0, 1) := by decide +kernel
theorem dX5_plan_40 : decode cX5_plan 40 = .ok (.iload_n 2, 1) := by decide +kernel
theorem dX5_plan_41 : decode cX5_plan 41 = .ok (.invokevirtual 87, 3) := by decide +kernel
theorem dX5_plan_44 : decode cX5_plan 44 = .ok (.goto 7, 3) := by decide +kernel
theorem dX5_plan_47 : decode cX5_plan 47 = .ok (.iload_n 2, 1) := by decide +kernel
theorem dX5_plan_48 : decode cX5_plan 48 = .ok (.invokestatic 68, 3) := by decide +kernel
theorem dX5_plan_51 : decode cX5_plan 51 = .ok (.ireturn, 1) := by decide +kernel
theorem dX5_plan_52 : decode cX5_plan 52 = .ok (.iconst 0, 1) := by decide +kernel
theorem dX5_plan_53 : decode cX5_plan 53 = .ok (.istore_n 3, 1) := by decide +kernel
theorem dX5_plan_54 : decode cX5_plan 54 = .ok (.aload_n 0, 1) := by decide +kernel
theorem dX5_plan_55 : decode cX5_plan 55 = .ok (.aload_n 0, 1) := by decide +kernel
theorem dX5_plan_56 : decode cX5_plan 56 = .ok (.getfield 44, 3) := by decide +kernel
theorem dX5_plan_59 : decode cX5_plan 59 = .ok (.iload_n 2, 1) := by decide +kernel
theorem dX5_plan_60 : decode cX5_plan 60 = .ok (.ior, 1) := by decide +kernel
theorem dX5_plan_61 : decode cX5_plan 61 = .ok (.iload_n 3, 1) := by decide +kernel
theorem dX5_plan_62 : decode cX5_plan 62 = .ok (.invokevirtual 83, 3) := by decide +kernel
theorem dX5_plan_65 : decode cX5_plan 65 = .ok (.aload_n 0, 1) := by decide +kernel
theorem dX5_plan_66 : decode cX5_plan 66 = .ok (.invokevirtual 40, 3) := by decide +kernel
theorem dX5_plan_69 : decode cX5_plan 69 = .ok (.if_icmp .eq 9, 3) := by decide +kernel
theorem dX5_plan_72 : decode cX5_plan 72 = .ok (.iinc 3 1, 3) := by decide +kernel
theorem dX5_plan_75 : decode cX5_plan 75 = .ok (.goto (-21), 3) := by decide +kernel
theorem dX5_plan_78 : decode cX5_plan 78 = .ok (.iload_n 3, 1) := by decide +kernel
theorem dX5_plan_79 : decode cX5_plan 79 = .ok (.ireturn, 1) := by decide +kernel
set_option maxRecDepth 20000 in
theorem ggX5_saves_X5_isWord : GoodIn wsX5_saves wsX5_isWord := goodIn_r _ [6, 7, 8, 9, 5, 10, 43, 44, 45, 46, 47, 48, 49, 50, 51, 52] (by decide +kernel) (by decide +kernel)
set_option maxRecDepth 20000 in
theorem gX5_saves_X5_isWord : GoodIn wsX5_saves (wsV RX5 50 RX5 yX5_isWord wsX5_isWord) := goodIn_app (goodIn_of _ (by decide +kernel)) ggX5_saves_X5_isWord
set_option maxRecDepth 20000 in
theorem ggX5_saves_X5_planFor : GoodIn wsX5_saves wsX5_planFor := goodIn_r _ [14, 15, 16, 17, 5, 18, 7, 19, 20, 21, 22, 23, 24, 25, 26, 27, 28, 29, 30, 31, 32, 33, 34, 35, 36, 37, 38, 39, 40, 41, 42, 43, 44, 45, 46, 47, 48, 49, 50, 51, 52] (by decide +kernel) (by decide +kernel)
set_option maxRecDepth 20000 in
theorem gX5_saves_X5_planFor : GoodIn wsX5_saves (wsV RX5 93 RX5 yX5_planFor wsX5_planFor) := goodIn_app (goodIn_of _ (by decide +kernel)) ggX5_saves_X5_planFor
set_option maxRecDepth 20000 in
theorem ggX5_saves_X5_costOf : GoodIn wsX5_saves wsX5_costOf := goodIn_r _ [26, 7, 27, 28, 29, 5, 30, 43, 44, 45, 46, 47, 48, 49, 50, 51, 52] (by decide +kernel) (by decide +kernel)
set_option maxRecDepth 20000 in
theorem gX5_saves_X5_costOf : GoodIn wsX5_saves (wsV RX5 87 RX5 yX5_costOf wsX5_costOf) := goodIn_app (goodIn_of _ (by decide +kernel)) ggX5_saves_X5_costOf
theorem dX5_saves_0 : decode cX5_saves 0 = .ok (.aload_n 0, 1) := by decide +kernel
theorem dX5_saves_1 : decode cX5_saves 1 = .ok (.iload_n 1, 1) := by decide +kernel
theorem dX5_saves_2 : decode cX5_saves 2 = .ok (.invokevirtual 50, 3) := by decide +kernel
theorem dX5_saves_5 : decode cX5_saves 5 = .ok (.ifCond .ne 5, 3) := by decide +kernel
theorem dX5_saves_8 : decode cX5_saves 8 = .ok (.iconst (-1), 1) := by decide +kernel
theorem dX5_saves_9 : decode cX5_saves 9 = .ok (.ireturn, 1) := by decide +kernel
theorem dX5_saves_10 : decode cX5_saves 10 = .ok (.aload_n 0, 1) := by decide +kernel
theorem dX5_saves_11 : decode cX5_saves 11 = .ok (.aload_n 0, 1) := by decide +kernel
theorem dX5_saves_12 : decode cX5_saves 12 = .ok (.aload_n 0, 1) := by decide +kernel
theorem dX5_saves_13 : decode cX5_saves 13 = .ok (.getfield 44, 3) := by decide +kernel
theorem dX5_saves_16 : decode cX5_saves 16 = .ok (.invokevirtual 93, 3) := by decide +kernel
theorem dX5_saves_19 : decode cX5_saves 19 = .ok (.invokevirtual 87, 3) := by decide +kernel
theorem dX5_saves_22 : decode cX5_saves 22 = .ok (.aload_n 0, 1) := by decide +kernel
theorem dX5_saves_23 : decode cX5_saves 23 = .ok (.aload_n 0, 1) := by decide +kernel
theorem dX5_saves_24 : decode cX5_saves 24 = .ok (.aload_n 0, 1) := by decide +kernel
theorem dX5_saves_25 : decode cX5_saves 25 = .ok (.getfield 44, 3) := by decide +kernel
theorem dX5_saves_28 : decode cX5_saves 28 = .ok (.iconst 1, 1) := by decide +kernel
theorem dX5_saves_29 : decode cX5_saves 29 = .ok (.iload_n 1, 1) := by decide +kernel
theorem dX5_saves_30 : decode cX5_saves 30 = .ok (.ishl, 1) := by decide +kernel
theorem dX5_saves_31 : decode cX5_saves 31 = .ok (.ior, 1) := by decide +kernel
theorem dX5_saves_32 : decode cX5_saves 32 = .ok (.invokevirtual 93, 3) := by decide +kernel
theorem dX5_saves_35 : decode cX5_saves 35 = .ok (.invokevirtual 87, 3) := by decide +kernel
theorem dX5_saves_38 : decode cX5_saves 38 = .ok (.isub, 1) := by decide +kernel
theorem dX5_saves_39 : decode cX5_saves 39 = .ok (.ireturn, 1) := by decide +kernel
set_option maxRecDepth 20000 in
theorem ggX5_isLeast_X5_has : GoodIn wsX5_isLeast wsX5_has := goodIn_r _ [6] (by decide +kernel) (by decide +kernel)
set_option maxRecDepth 20000 in
theorem gX5_isLeast_X5_has : GoodIn wsX5_isLeast (va_wsS RX5 58 yX5_has wsX5_has) := goodIn_app (goodIn_of _ (by decide +kernel)) ggX5_isLeast_X5_has
theorem dX5_isLeast_0 : decode cX5_isLeast 0 = .ok (.aload_n 0, 1) := by decide +kernel
theorem dX5_isLeast_1 : decode cX5_isLeast 1 = .ok (.getfield 26, 3) := by decide +kernel
theorem dX5_isLeast_4 : decode cX5_isLeast 4 = .ok (.iload_n 1, 1) := by decide +kernel
theorem dX5_isLeast_5 : decode cX5_isLeast 5 = .ok (.baload, 1) := by decide +kernel
theorem dX5_isLeast_6 : decode cX5_isLeast 6 = .ok (.istore_n 2, 1) := by decide +kernel
theorem dX5_isLeast_7 : decode cX5_isLeast 7 = .ok (.iconst 0, 1) := by decide +kernel
theorem dX5_isLeast_8 : decode cX5_isLeast 8 = .ok (.istore_n 3, 1) := by decide +kernel
theorem dX5_isLeast_9 : decode cX5_isLeast 9 = .ok (.iload_n 3, 1) := by decide +kernel
theorem dX5_isLeast_10 : decode cX5_isLeast 10 = .ok (.aload_n 0, 1) := by decide +kernel
theorem dX5_isLeast_11 : decode cX5_isLeast 11 = .ok (.getfield 7, 3) := by decide +kernel
theorem dX5_isLeast_14 : decode cX5_isLeast 14 = .ok (.if_icmp .ge 42, 3) := by decide +kernel
theorem dX5_isLeast_17 : decode cX5_isLeast 17 = .ok (.iload_n 2, 1) := by decide +kernel
theorem dX5_isLeast_18 : decode cX5_isLeast 18 = .ok (.ifCond .eq 30, 3) := by decide +kernel
theorem dX5_isLeast_21 : decode cX5_isLeast 21 = .ok (.iload_n 1, 1) := by decide +kernel
theorem dX5_isLeast_22 : decode cX5_isLeast 22 = .ok (.iload_n 3, 1) := by decide +kernel
theorem dX5_isLeast_23 : decode cX5_isLeast 23 = .ok (.invokestatic 58, 3) := by decide +kernel
theorem dX5_isLeast_26 : decode cX5_isLeast 26 = .ok (.ifCond .eq 18, 3) := by decide +kernel
theorem dX5_isLeast_29 : decode cX5_isLeast 29 = .ok (.aload_n 0, 1) := by decide +kernel
theorem dX5_isLeast_30 : decode cX5_isLeast 30 = .ok (.getfield 26, 3) := by decide +kernel
theorem dX5_isLeast_33 : decode cX5_isLeast 33 = .ok (.iload_n 1, 1) := by decide +kernel
theorem dX5_isLeast_34 : decode cX5_isLeast 34 = .ok (.iconst 1, 1) := by decide +kernel
theorem dX5_isLeast_35 : decode cX5_isLeast 35 = .ok (.iload_n 3, 1) := by decide +kernel
theorem dX5_isLeast_36 : decode cX5_isLeast 36 = .ok (.ishl, 1) := by decide +kernel
theorem dX5_isLeast_37 : decode cX5_isLeast 37 = .ok (.iconst (-1), 1) := by decide +kernel
theorem dX5_isLeast_38 : decode cX5_isLeast 38 = .ok (.ixor, 1) := by decide +kernel
theorem dX5_isLeast_39 : decode cX5_isLeast 39 = .ok (.iand, 1) := by decide +kernel
theorem dX5_isLeast_40 : decode cX5_isLeast 40 = .ok (.baload, 1) := by decide +kernel
theorem dX5_isLeast_41 : decode cX5_isLeast 41 = .ok (.ifCond .ne 7, 3) := by decide +kernel
theorem dX5_isLeast_44 : decode cX5_isLeast 44 = .ok (.iconst 1, 1) := by decide +kernel
theorem dX5_isLeast_45 : decode cX5_isLeast 45 = .ok (.goto 4, 3) := by decide +kernel
theorem dX5_isLeast_48 : decode cX5_isLeast 48 = .ok (.iconst 0, 1) := by decide +kernel
theorem dX5_isLeast_49 : decode cX5_isLeast 49 = .ok (.istore_n 2, 1) := by decide +kernel
theorem dX5_isLeast_50 : decode cX5_isLeast 50 = .ok (.iinc 3 1, 3) := by decide +kernel
theorem dX5_isLeast_53 : decode cX5_isLeast 53 = .ok (.goto (-44), 3) := by decide +kernel
theorem dX5_isLeast_56 : decode cX5_isLeast 56 = .ok (.iload_n 2, 1) := by decide +kernel
theorem dX5_isLeast_57 : decode cX5_isLeast 57 = .ok (.ireturn, 1) := by decide +kernel
set_option maxRecDepth 20000 in
theorem ggX5_least_X5_in : GoodIn wsX5_least wsX5_in := goodIn_r _ [6] (by decide +kernel) (by decide +kernel)
set_option maxRecDepth 20000 in
theorem gX5_least_X5_in : GoodIn wsX5_least (va_wsS RX5 36 yX5_in wsX5_in) := goodIn_app (goodIn_of _ (by decide +kernel)) ggX5_least_X5_in
set_option maxRecDepth 20000 in
theorem ggX5_least_X5_all : GoodIn wsX5_least wsX5_all := goodIn_r _ [10, 1, 30, 31, 32, 33, 34, 35, 36, 37, 38, 39] (by decide +kernel) (by decide +kernel)
set_option maxRecDepth 20000 in
theorem gX5_least_X5_all : GoodIn wsX5_least (wsV RX5 40 RX5 yX5_all wsX5_all) := goodIn_app (goodIn_of _ (by decide +kernel)) ggX5_least_X5_all
set_option maxRecDepth 20000 in
theorem ggX5_least_X5_knownOn : GoodIn wsX5_least wsX5_knownOn := goodIn_r _ [14, 15, 16, 17, 5, 18, 1, 19, 30, 31, 32, 33, 34, 35, 36, 37, 38, 39] (by decide +kernel) (by decide +kernel)
set_option maxRecDepth 20000 in
theorem gX5_least_X5_knownOn : GoodIn wsX5_least (wsV RX5 83 RX5 yX5_knownOn wsX5_knownOn) := goodIn_app (goodIn_of _ (by decide +kernel)) ggX5_least_X5_knownOn
set_option maxRecDepth 20000 in
theorem ggX5_least_X5_isLeast : GoodIn wsX5_least wsX5_isLeast := goodIn_r _ [23, 2, 1, 24, 25, 5, 26, 30, 31, 32, 33, 34, 35, 36, 37, 38, 39] (by decide +kernel) (by decide +kernel)
set_option maxRecDepth 20000 in
theorem gX5_least_X5_isLeast : GoodIn wsX5_least (wsV RX5 96 RX5 yX5_isLeast wsX5_isLeast) := goodIn_app (goodIn_of _ (by decide +kernel)) ggX5_least_X5_isLeast
set_option maxRecDepth 20000 in
theorem ggX5_least_X5_bits : GoodIn wsX5_least wsX5_bits := goodIn_r _ [29] (by decide +kernel) (by decide +kernel)
set_option maxRecDepth 20000 in
theorem gX5_least_X5_bits : GoodIn wsX5_least (va_wsS RX5 68 yX5_bits wsX5_bits) := goodIn_app (goodIn_of _ (by decide +kernel)) ggX5_least_X5_bits
set_option maxRecDepth 20000 in
theorem ggX5_least_X5_has : GoodIn wsX5_least wsX5_has := goodIn_r _ [26] (by decide +kernel) (by decide +kernel)
set_option maxRecDepth 20000 in
theorem gX5_least_X5_has : GoodIn wsX5_least (va_wsS RX5 58 yX5_has wsX5_has) := goodIn_app (goodIn_of _ (by decide +kernel)) ggX5_least_X5_has
theorem dX5_least_0 : decode cX5_least 0 = .ok (.iload_n 1, 1) := by decide +kernel
theorem dX5_least_1 : decode cX5_least 1 = .ok (.iconst 0, 1) := by decide +kernel
theorem dX5_least_2 : decode cX5_least 2 = .ok (.iconst 1, 1) := by decide +kernel
theorem dX5_least_3 : decode cX5_least 3 = .ok (.invokestatic 36, 3) := by decide +kernel
theorem dX5_least_6 : decode cX5_least 6 = .ok (.ifCond .ne 22, 3) := by decide +kernel
theorem dX5_least_9 : decode cX5_least 9 = .ok (.iload_n 1, 1) := by decide +kernel
theorem dX5_least_10 : decode cX5_least 10 = .ok (.bipush 10, 2) := by decide +kernel
theorem dX5_least_12 : decode cX5_least 12 = .ok (.bipush 9, 2) := by decide +kernel
theorem dX5_least_14 : decode cX5_least 14 = .ok (.aload_n 0, 1) := by decide +kernel
theorem dX5_least_15 : decode cX5_least 15 = .ok (.getfield 7, 3) := by decide +kernel
theorem dX5_least_18 : decode cX5_least 18 = .ok (.iadd, 1) := by decide +kernel
theorem dX5_least_19 : decode cX5_least 19 = .ok (.invokestatic 36, 3) := by decide +kernel
theorem dX5_least_22 : decode cX5_least 22 = .ok (.ifCond .ne 6, 3) := by decide +kernel
theorem dX5_least_25 : decode cX5_least 25 = .ok (.bipush (-2), 2) := by decide +kernel
theorem dX5_least_27 : decode cX5_least 27 = .ok (.ireturn, 1) := by decide +kernel
theorem dX5_least_28 : decode cX5_least 28 = .ok (.iconst 0, 1) := by decide +kernel
theorem dX5_least_29 : decode cX5_least 29 = .ok (.istore_n 2, 1) := by decide +kernel
theorem dX5_least_30 : decode cX5_least 30 = .ok (.iload_n 2, 1) := by decide +kernel
theorem dX5_least_31 : decode cX5_least 31 = .ok (.aload_n 0, 1) := by decide +kernel
theorem dX5_least_32 : decode cX5_least 32 = .ok (.invokevirtual 40, 3) := by decide +kernel
theorem dX5_least_35 : decode cX5_least 35 = .ok (.if_icmp .gt 34, 3) := by decide +kernel
theorem dX5_least_38 : decode cX5_least 38 = .ok (.aload_n 0, 1) := by decide +kernel
theorem dX5_least_39 : decode cX5_least 39 = .ok (.getfield 26, 3) := by decide +kernel
theorem dX5_least_42 : decode cX5_least 42 = .ok (.iload_n 2, 1) := by decide +kernel
theorem dX5_least_43 : decode cX5_least 43 = .ok (.aload_n 0, 1) := by decide +kernel
theorem dX5_least_44 : decode cX5_least 44 = .ok (.iload_n 2, 1) := by decide +kernel
theorem dX5_least_45 : decode cX5_least 45 = .ok (.bipush 14, 2) := by decide +kernel
theorem dX5_least_47 : decode cX5_least 47 = .ok (.invokevirtual 83, 3) := by decide +kernel
theorem dX5_least_50 : decode cX5_least 50 = .ok (.aload_n 0, 1) := by decide +kernel
theorem dX5_least_51 : decode cX5_least 51 = .ok (.invokevirtual 40, 3) := by decide +kernel
theorem dX5_least_54 : decode cX5_least 54 = .ok (.if_icmp .ne 7, 3) := by decide +kernel
theorem dX5_least_57 : decode cX5_least 57 = .ok (.iconst 1, 1) := by decide +kernel
theorem dX5_least_58 : decode cX5_least 58 = .ok (.goto 4, 3) := by decide +kernel
theorem dX5_least_61 : decode cX5_least 61 = .ok (.iconst 0, 1) := by decide +kernel
theorem dX5_least_62 : decode cX5_least 62 = .ok (.bastore, 1) := by decide +kernel
theorem dX5_least_63 : decode cX5_least 63 = .ok (.iinc 2 1, 3) := by decide +kernel
theorem dX5_least_66 : decode cX5_least 66 = .ok (.goto (-36), 3) := by decide +kernel
theorem dX5_least_69 : decode cX5_least 69 = .ok (.iconst 0, 1) := by decide +kernel
theorem dX5_least_70 : decode cX5_least 70 = .ok (.istore_n 2, 1) := by decide +kernel
theorem dX5_least_71 : decode cX5_least 71 = .ok (.iconst 0, 1) := by decide +kernel
theorem dX5_least_72 : decode cX5_least 72 = .ok (.istore_n 3, 1) := by decide +kernel
theorem dX5_least_73 : decode cX5_least 73 = .ok (.iconst 0, 1) := by decide +kernel
theorem dX5_least_74 : decode cX5_least 74 = .ok (.istore 4, 2) := by decide +kernel
theorem dX5_least_76 : decode cX5_least 76 = .ok (.iconst 0, 1) := by decide +kernel
theorem dX5_least_77 : decode cX5_least 77 = .ok (.istore 5, 2) := by decide +kernel
theorem dX5_least_79 : decode cX5_least 79 = .ok (.iload 5, 2) := by decide +kernel
theorem dX5_least_81 : decode cX5_least 81 = .ok (.aload_n 0, 1) := by decide +kernel
theorem dX5_least_82 : decode cX5_least 82 = .ok (.invokevirtual 40, 3) := by decide +kernel
theorem dX5_least_85 : decode cX5_least 85 = .ok (.if_icmp .gt 68, 3) := by decide +kernel
theorem dX5_least_88 : decode cX5_least 88 = .ok (.aload_n 0, 1) := by decide +kernel
theorem dX5_least_89 : decode cX5_least 89 = .ok (.iload 5, 2) := by decide +kernel
theorem dX5_least_91 : decode cX5_least 91 = .ok (.invokevirtual 96, 3) := by decide +kernel
theorem dX5_least_94 : decode cX5_least 94 = .ok (.ifCond .eq 53, 3) := by decide +kernel
theorem dX5_least_97 : decode cX5_least 97 = .ok (.iinc 2 1, 3) := by decide +kernel
theorem dX5_least_100 : decode cX5_least 100 = .ok (.iload 5, 2) := by decide +kernel
theorem dX5_least_102 : decode cX5_least 102 = .ok (.invokestatic 68, 3) := by decide +kernel
theorem dX5_least_105 : decode cX5_least 105 = .ok (.iload_n 3, 1) := by decide +kernel
theorem dX5_least_106 : decode cX5_least 106 = .ok (.if_icmp .le 11, 3) := by decide +kernel
theorem dX5_least_109 : decode cX5_least 109 = .ok (.iload 5, 2) := by decide +kernel
theorem dX5_least_111 : decode cX5_least 111 = .ok (.invokestatic 68, 3) := by decide +kernel
theorem dX5_least_114 : decode cX5_least 114 = .ok (.goto 4, 3) := by decide +kernel
theorem dX5_least_117 : decode cX5_least 117 = .ok (.iload_n 3, 1) := by decide +kernel
theorem dX5_least_118 : decode cX5_least 118 = .ok (.istore_n 3, 1) := by decide +kernel
theorem dX5_least_119 : decode cX5_least 119 = .ok (.iload 4, 2) := by decide +kernel
theorem dX5_least_121 : decode cX5_least 121 = .ok (.iload_n 1, 1) := by decide +kernel
theorem dX5_least_122 : decode cX5_least 122 = .ok (.bipush 9, 2) := by decide +kernel
theorem dX5_least_124 : decode cX5_least 124 = .ok (.if_icmp .le 19, 3) := by decide +kernel
theorem dX5_least_127 : decode cX5_least 127 = .ok (.iload 5, 2) := by decide +kernel
theorem dX5_least_129 : decode cX5_least 129 = .ok (.iload_n 1, 1) := by decide +kernel
theorem dX5_least_130 : decode cX5_least 130 = .ok (.bipush 10, 2) := by decide +kernel
theorem dX5_least_132 : decode cX5_least 132 = .ok (.isub, 1) := by decide +kernel
theorem dX5_least_133 : decode cX5_least 133 = .ok (.invokestatic 58, 3) := by decide +kernel
theorem dX5_least_136 : decode cX5_least 136 = .ok (.ifCond .eq 7, 3) := by decide +kernel
theorem dX5_least_139 : decode cX5_least 139 = .ok (.iconst 1, 1) := by decide +kernel
theorem dX5_least_140 : decode cX5_least 140 = .ok (.goto 4, 3) := by decide +kernel
theorem dX5_least_143 : decode cX5_least 143 = .ok (.iconst 0, 1) := by decide +kernel
theorem dX5_least_144 : decode cX5_least 144 = .ok (.iadd, 1) := by decide +kernel
theorem dX5_least_145 : decode cX5_least 145 = .ok (.istore 4, 2) := by decide +kernel
theorem dX5_least_147 : decode cX5_least 147 = .ok (.iinc 5 1, 3) := by decide +kernel
theorem dX5_least_150 : decode cX5_least 150 = .ok (.goto (-71), 3) := by decide +kernel
theorem dX5_least_153 : decode cX5_least 153 = .ok (.iload_n 1, 1) := by decide +kernel
theorem dX5_least_154 : decode cX5_least 154 = .ok (.ifCond .ne 7, 3) := by decide +kernel
theorem dX5_least_157 : decode cX5_least 157 = .ok (.iload_n 2, 1) := by decide +kernel
theorem dX5_least_158 : decode cX5_least 158 = .ok (.goto 14, 3) := by decide +kernel
theorem dX5_least_161 : decode cX5_least 161 = .ok (.iload_n 1, 1) := by decide +kernel
theorem dX5_least_162 : decode cX5_least 162 = .ok (.iconst 1, 1) := by decide +kernel
theorem dX5_least_163 : decode cX5_least 163 = .ok (.if_icmp .ne 7, 3) := by decide +kernel
theorem dX5_least_166 : decode cX5_least 166 = .ok (.iload_n 3, 1) := by decide +kernel
theorem dX5_least_167 : decode cX5_least 167 = .ok (.goto 5, 3) := by decide +kernel
theorem dX5_least_170 : decode cX5_least 170 = .ok (.iload 4, 2) := by decide +kernel
theorem dX5_least_172 : decode cX5_least 172 = .ok (.ireturn, 1) := by decide +kernel
set_option maxRecDepth 20000 in
theorem ggX5_reached_X5_has : GoodIn wsX5_reached wsX5_has := goodIn_r _ [6] (by decide +kernel) (by decide +kernel)
set_option maxRecDepth 20000 in
theorem gX5_reached_X5_has : GoodIn wsX5_reached (va_wsS RX5 58 yX5_has wsX5_has) := goodIn_app (goodIn_of _ (by decide +kernel)) ggX5_reached_X5_has
theorem dX5_reached_0 : decode cX5_reached 0 = .ok (.iconst 1, 1) := by decide +kernel
theorem dX5_reached_1 : decode cX5_reached 1 = .ok (.iload_n 1, 1) := by decide +kernel
theorem dX5_reached_2 : decode cX5_reached 2 = .ok (.ishl, 1) := by decide +kernel
theorem dX5_reached_3 : decode cX5_reached 3 = .ok (.istore_n 3, 1) := by decide +kernel
theorem dX5_reached_4 : decode cX5_reached 4 = .ok (.iconst 0, 1) := by decide +kernel
theorem dX5_reached_5 : decode cX5_reached 5 = .ok (.istore 4, 2) := by decide +kernel
theorem dX5_reached_7 : decode cX5_reached 7 = .ok (.iload 4, 2) := by decide +kernel
theorem dX5_reached_9 : decode cX5_reached 9 = .ok (.iload_n 2, 1) := by decide +kernel
theorem dX5_reached_10 : decode cX5_reached 10 = .ok (.if_icmp .ge 68, 3) := by decide +kernel
theorem dX5_reached_13 : decode cX5_reached 13 = .ok (.iconst 0, 1) := by decide +kernel
theorem dX5_reached_14 : decode cX5_reached 14 = .ok (.istore 5, 2) := by decide +kernel
theorem dX5_reached_16 : decode cX5_reached 16 = .ok (.iconst 0, 1) := by decide +kernel
theorem dX5_reached_17 : decode cX5_reached 17 = .ok (.istore 6, 2) := by decide +kernel
theorem dX5_reached_19 : decode cX5_reached 19 = .ok (.iload 6, 2) := by decide +kernel
theorem dX5_reached_21 : decode cX5_reached 21 = .ok (.aload_n 0, 1) := by decide +kernel
theorem dX5_reached_22 : decode cX5_reached 22 = .ok (.getfield 7, 3) := by decide +kernel
theorem dX5_reached_25 : decode cX5_reached 25 = .ok (.if_icmp .ge 44, 3) := by decide +kernel
theorem dX5_reached_28 : decode cX5_reached 28 = .ok (.iload 5, 2) := by decide +kernel
theorem dX5_reached_30 : decode cX5_reached 30 = .ok (.iload_n 3, 1) := by decide +kernel
theorem dX5_reached_31 : decode cX5_reached 31 = .ok (.iload 6, 2) := by decide +kernel
theorem dX5_reached_33 : decode cX5_reached 33 = .ok (.invokestatic 58, 3) := by decide +kernel
theorem dX5_reached_36 : decode cX5_reached 36 = .ok (.ifCond .eq 23, 3) := by decide +kernel
theorem dX5_reached_39 : decode cX5_reached 39 = .ok (.aload_n 0, 1) := by decide +kernel
theorem dX5_reached_40 : decode cX5_reached 40 = .ok (.getfield 13, 3) := by decide +kernel
theorem dX5_reached_43 : decode cX5_reached 43 = .ok (.iload 6, 2) := by decide +kernel
theorem dX5_reached_45 : decode cX5_reached 45 = .ok (.iaload, 1) := by decide +kernel
theorem dX5_reached_46 : decode cX5_reached 46 = .ok (.ifCond .lt 13, 3) := by decide +kernel
theorem dX5_reached_49 : decode cX5_reached 49 = .ok (.aload_n 0, 1) := by decide +kernel
theorem dX5_reached_50 : decode cX5_reached 50 = .ok (.getfield 13, 3) := by decide +kernel
theorem dX5_reached_53 : decode cX5_reached 53 = .ok (.iload 6, 2) := by decide +kernel
theorem dX5_reached_55 : decode cX5_reached 55 = .ok (.iaload, 1) := by decide +kernel
theorem dX5_reached_56 : decode cX5_reached 56 = .ok (.goto 4, 3) := by decide +kernel
theorem dX5_reached_59 : decode cX5_reached 59 = .ok (.iconst 0, 1) := by decide +kernel
theorem dX5_reached_60 : decode cX5_reached 60 = .ok (.ior, 1) := by decide +kernel
theorem dX5_reached_61 : decode cX5_reached 61 = .ok (.istore 5, 2) := by decide +kernel
theorem dX5_reached_63 : decode cX5_reached 63 = .ok (.iinc 6 1, 3) := by decide +kernel
theorem dX5_reached_66 : decode cX5_reached 66 = .ok (.goto (-47), 3) := by decide +kernel
theorem dX5_reached_69 : decode cX5_reached 69 = .ok (.iload 5, 2) := by decide +kernel
theorem dX5_reached_71 : decode cX5_reached 71 = .ok (.istore_n 3, 1) := by decide +kernel
theorem dX5_reached_72 : decode cX5_reached 72 = .ok (.iinc 4 1, 3) := by decide +kernel
theorem dX5_reached_75 : decode cX5_reached 75 = .ok (.goto (-68), 3) := by decide +kernel
theorem dX5_reached_78 : decode cX5_reached 78 = .ok (.iload_n 3, 1) := by decide +kernel
theorem dX5_reached_79 : decode cX5_reached 79 = .ok (.ireturn, 1) := by decide +kernel
set_option maxRecDepth 20000 in
theorem ggX5_wayOf_X5_reached : GoodIn wsX5_wayOf wsX5_reached := goodIn_r _ [6, 1, 7, 8, 9, 5, 10, 11, 12, 13, 14, 15, 16, 17, 18, 19, 20] (by decide +kernel) (by decide +kernel)
set_option maxRecDepth 20000 in
theorem gX5_wayOf_X5_reached : GoodIn wsX5_wayOf (wsV RX5 99 RX5 yX5_reached wsX5_reached) := goodIn_app (goodIn_of _ (by decide +kernel)) ggX5_wayOf_X5_reached
set_option maxRecDepth 20000 in
theorem ggX5_wayOf_X5_has : GoodIn wsX5_wayOf wsX5_has := goodIn_r _ [10] (by decide +kernel) (by decide +kernel)
set_option maxRecDepth 20000 in
theorem gX5_wayOf_X5_has : GoodIn wsX5_wayOf (va_wsS RX5 58 yX5_has wsX5_has) := goodIn_app (goodIn_of _ (by decide +kernel)) ggX5_wayOf_X5_has
theorem dX5_wayOf_0 : decode cX5_wayOf 0 = .ok (.iconst 1, 1) := by decide +kernel
theorem dX5_wayOf_1 : decode cX5_wayOf 1 = .ok (.istore_n 3, 1) := by decide +kernel
theorem dX5_wayOf_2 : decode cX5_wayOf 2 = .ok (.iload_n 3, 1) := by decide +kernel
theorem dX5_wayOf_3 : decode cX5_wayOf 3 = .ok (.aload_n 0, 1) := by decide +kernel
theorem dX5_wayOf_4 : decode cX5_wayOf 4 = .ok (.getfield 7, 3) := by decide +kernel
theorem dX5_wayOf_7 : decode cX5_wayOf 7 = .ok (.if_icmp .gt 24, 3) := by decide +kernel
theorem dX5_wayOf_10 : decode cX5_wayOf 10 = .ok (.aload_n 0, 1) := by decide +kernel
theorem dX5_wayOf_11 : decode cX5_wayOf 11 = .ok (.iload_n 1, 1) := by decide +kernel
theorem dX5_wayOf_12 : decode cX5_wayOf 12 = .ok (.iload_n 3, 1) := by decide +kernel
theorem dX5_wayOf_13 : decode cX5_wayOf 13 = .ok (.invokevirtual 99, 3) := by decide +kernel
theorem dX5_wayOf_16 : decode cX5_wayOf 16 = .ok (.iload_n 2, 1) := by decide +kernel
theorem dX5_wayOf_17 : decode cX5_wayOf 17 = .ok (.invokestatic 58, 3) := by decide +kernel
theorem dX5_wayOf_20 : decode cX5_wayOf 20 = .ok (.ifCond .eq 5, 3) := by decide +kernel
theorem dX5_wayOf_23 : decode cX5_wayOf 23 = .ok (.iload_n 3, 1) := by decide +kernel
theorem dX5_wayOf_24 : decode cX5_wayOf 24 = .ok (.ireturn, 1) := by decide +kernel
theorem dX5_wayOf_25 : decode cX5_wayOf 25 = .ok (.iinc 3 1, 3) := by decide +kernel
theorem dX5_wayOf_28 : decode cX5_wayOf 28 = .ok (.goto (-26), 3) := by decide +kernel
theorem dX5_wayOf_31 : decode cX5_wayOf 31 = .ok (.bipush (-6), 2) := by decide +kernel
theorem dX5_wayOf_33 : decode cX5_wayOf 33 = .ok (.ireturn, 1) := by decide +kernel
set_option maxRecDepth 20000 in
theorem ggX5_way_X5_isWord : GoodIn wsX5_way wsX5_isWord := goodIn_r _ [5, 6, 7, 8, 4, 9, 22, 23, 24, 25, 26, 27, 28, 29, 30, 31] (by decide +kernel) (by decide +kernel)
set_option maxRecDepth 20000 in
theorem gX5_way_X5_isWord : GoodIn wsX5_way (wsV RX5 50 RX5 yX5_isWord wsX5_isWord) := goodIn_app (goodIn_of _ (by decide +kernel)) ggX5_way_X5_isWord
set_option maxRecDepth 20000 in
theorem ggX5_way_X5_wayOf : GoodIn wsX5_way wsX5_wayOf := goodIn_r _ [13, 6, 14, 15, 16, 4, 17, 18, 19, 20, 21, 22, 23, 24, 25, 26, 27, 28, 29, 30, 31] (by decide +kernel) (by decide +kernel)
set_option maxRecDepth 20000 in
theorem gX5_way_X5_wayOf : GoodIn wsX5_way (wsV RX5 102 RX5 yX5_wayOf wsX5_wayOf) := goodIn_app (goodIn_of _ (by decide +kernel)) ggX5_way_X5_wayOf
theorem dX5_way_0 : decode cX5_way 0 = .ok (.aload_n 0, 1) := by decide +kernel
theorem dX5_way_1 : decode cX5_way 1 = .ok (.iload_n 1, 1) := by decide +kernel
theorem dX5_way_2 : decode cX5_way 2 = .ok (.invokevirtual 50, 3) := by decide +kernel
theorem dX5_way_5 : decode cX5_way 5 = .ok (.ifCond .eq 20, 3) := by decide +kernel
theorem dX5_way_8 : decode cX5_way 8 = .ok (.aload_n 0, 1) := by decide +kernel
theorem dX5_way_9 : decode cX5_way 9 = .ok (.iload_n 2, 1) := by decide +kernel
theorem dX5_way_10 : decode cX5_way 10 = .ok (.invokevirtual 50, 3) := by decide +kernel
theorem dX5_way_13 : decode cX5_way 13 = .ok (.ifCond .eq 12, 3) := by decide +kernel
theorem dX5_way_16 : decode cX5_way 16 = .ok (.aload_n 0, 1) := by decide +kernel
theorem dX5_way_17 : decode cX5_way 17 = .ok (.iload_n 1, 1) := by decide +kernel
theorem dX5_way_18 : decode cX5_way 18 = .ok (.iload_n 2, 1) := by decide +kernel
theorem dX5_way_19 : decode cX5_way 19 = .ok (.invokevirtual 102, 3) := by decide +kernel
theorem dX5_way_22 : decode cX5_way 22 = .ok (.goto 4, 3) := by decide +kernel
theorem dX5_way_25 : decode cX5_way 25 = .ok (.iconst (-1), 1) := by decide +kernel
theorem dX5_way_26 : decode cX5_way 26 = .ok (.ireturn, 1) := by decide +kernel
set_option maxRecDepth 20000 in
theorem ggX5_ringOf_X5_wayOf : GoodIn wsX5_ringOf wsX5_wayOf := goodIn_r _ [6, 1, 7, 8, 9, 5, 10, 11, 12, 13, 14, 15, 16, 17, 18, 19, 20, 21, 22, 23, 24] (by decide +kernel) (by decide +kernel)
set_option maxRecDepth 20000 in
theorem gX5_ringOf_X5_wayOf : GoodIn wsX5_ringOf (wsV RX5 102 RX5 yX5_wayOf wsX5_wayOf) := goodIn_app (goodIn_of _ (by decide +kernel)) ggX5_ringOf_X5_wayOf
theorem dX5_ringOf_0 : decode cX5_ringOf 0 = .ok (.aload_n 0, 1) := by decide +kernel
theorem dX5_ringOf_1 : decode cX5_ringOf 1 = .ok (.iload_n 1, 1) := by decide +kernel
theorem dX5_ringOf_2 : decode cX5_ringOf 2 = .ok (.iload_n 1, 1) := by decide +kernel
theorem dX5_ringOf_3 : decode cX5_ringOf 3 = .ok (.invokevirtual 102, 3) := by decide +kernel
theorem dX5_ringOf_6 : decode cX5_ringOf 6 = .ok (.ifCond .ge 5, 3) := by decide +kernel
theorem dX5_ringOf_9 : decode cX5_ringOf 9 = .ok (.iconst 0, 1) := by decide +kernel
theorem dX5_ringOf_10 : decode cX5_ringOf 10 = .ok (.ireturn, 1) := by decide +kernel
theorem dX5_ringOf_11 : decode cX5_ringOf 11 = .ok (.iconst 0, 1) := by decide +kernel
theorem dX5_ringOf_12 : decode cX5_ringOf 12 = .ok (.istore_n 2, 1) := by decide +kernel
theorem dX5_ringOf_13 : decode cX5_ringOf 13 = .ok (.iconst 0, 1) := by decide +kernel
theorem dX5_ringOf_14 : decode cX5_ringOf 14 = .ok (.istore_n 3, 1) := by decide +kernel
theorem dX5_ringOf_15 : decode cX5_ringOf 15 = .ok (.iload_n 3, 1) := by decide +kernel
theorem dX5_ringOf_16 : decode cX5_ringOf 16 = .ok (.aload_n 0, 1) := by decide +kernel
theorem dX5_ringOf_17 : decode cX5_ringOf 17 = .ok (.getfield 7, 3) := by decide +kernel
theorem dX5_ringOf_20 : decode cX5_ringOf 20 = .ok (.if_icmp .ge 37, 3) := by decide +kernel
theorem dX5_ringOf_23 : decode cX5_ringOf 23 = .ok (.iload_n 2, 1) := by decide +kernel
theorem dX5_ringOf_24 : decode cX5_ringOf 24 = .ok (.aload_n 0, 1) := by decide +kernel
theorem dX5_ringOf_25 : decode cX5_ringOf 25 = .ok (.iload_n 1, 1) := by decide +kernel
theorem dX5_ringOf_26 : decode cX5_ringOf 26 = .ok (.iload_n 3, 1) := by decide +kernel
theorem dX5_ringOf_27 : decode cX5_ringOf 27 = .ok (.invokevirtual 102, 3) := by decide +kernel
theorem dX5_ringOf_30 : decode cX5_ringOf 30 = .ok (.ifCond .le 18, 3) := by decide +kernel
theorem dX5_ringOf_33 : decode cX5_ringOf 33 = .ok (.aload_n 0, 1) := by decide +kernel
theorem dX5_ringOf_34 : decode cX5_ringOf 34 = .ok (.iload_n 3, 1) := by decide +kernel
theorem dX5_ringOf_35 : decode cX5_ringOf 35 = .ok (.iload_n 1, 1) := by decide +kernel
theorem dX5_ringOf_36 : decode cX5_ringOf 36 = .ok (.invokevirtual 102, 3) := by decide +kernel
theorem dX5_ringOf_39 : decode cX5_ringOf 39 = .ok (.ifCond .le 9, 3) := by decide +kernel
theorem dX5_ringOf_42 : decode cX5_ringOf 42 = .ok (.iconst 1, 1) := by decide +kernel
theorem dX5_ringOf_43 : decode cX5_ringOf 43 = .ok (.iload_n 3, 1) := by decide +kernel
theorem dX5_ringOf_44 : decode cX5_ringOf 44 = .ok (.ishl, 1) := by decide +kernel
theorem dX5_ringOf_45 : decode cX5_ringOf 45 = .ok (.goto 4, 3) := by decide +kernel
theorem dX5_ringOf_48 : decode cX5_ringOf 48 = .ok (.iconst 0, 1) := by decide +kernel
theorem dX5_ringOf_49 : decode cX5_ringOf 49 = .ok (.ior, 1) := by decide +kernel
theorem dX5_ringOf_50 : decode cX5_ringOf 50 = .ok (.istore_n 2, 1) := by decide +kernel
theorem dX5_ringOf_51 : decode cX5_ringOf 51 = .ok (.iinc 3 1, 3) := by decide +kernel
theorem dX5_ringOf_54 : decode cX5_ringOf 54 = .ok (.goto (-39), 3) := by decide +kernel
theorem dX5_ringOf_57 : decode cX5_ringOf 57 = .ok (.iload_n 2, 1) := by decide +kernel
theorem dX5_ringOf_58 : decode cX5_ringOf 58 = .ok (.ireturn, 1) := by decide +kernel
set_option maxRecDepth 20000 in
theorem ggX5_ring_X5_ringOf : GoodIn wsX5_ring wsX5_ringOf := goodIn_r _ [6, 1, 7, 8, 9, 5, 10, 11, 12, 13, 14, 15, 16, 17, 18, 19, 20, 21, 22, 23, 24, 25, 26, 27, 28] (by decide +kernel) (by decide +kernel)
set_option maxRecDepth 20000 in
theorem gX5_ring_X5_ringOf : GoodIn wsX5_ring (wsV RX5 105 RX5 yX5_ringOf wsX5_ringOf) := goodIn_app (goodIn_of _ (by decide +kernel)) ggX5_ring_X5_ringOf
set_option maxRecDepth 20000 in
theorem ggX5_ring_X5_has : GoodIn wsX5_ring wsX5_has := goodIn_r _ [18] (by decide +kernel) (by decide +kernel)
set_option maxRecDepth 20000 in
theorem gX5_ring_X5_has : GoodIn wsX5_ring (va_wsS RX5 58 yX5_has wsX5_has) := goodIn_app (goodIn_of _ (by decide +kernel)) ggX5_ring_X5_has
theorem dX5_ring_0 : decode cX5_ring 0 = .ok (.iload_n 1, 1) := by decide +kernel
theorem dX5_ring_1 : decode cX5_ring 1 = .ok (.iconst (-1), 1) := by decide +kernel
theorem dX5_ring_2 : decode cX5_ring 2 = .ok (.if_icmp .ge 6, 3) := by decide +kernel
theorem dX5_ring_5 : decode cX5_ring 5 = .ok (.bipush (-2), 2) := by decide +kernel
theorem dX5_ring_7 : decode cX5_ring 7 = .ok (.ireturn, 1) := by decide +kernel
theorem dX5_ring_8 : decode cX5_ring 8 = .ok (.iconst 0, 1) := by decide +kernel
theorem dX5_ring_9 : decode cX5_ring 9 = .ok (.istore_n 2, 1) := by decide +kernel
theorem dX5_ring_10 : decode cX5_ring 10 = .ok (.iconst 0, 1) := by decide +kernel
theorem dX5_ring_11 : decode cX5_ring 11 = .ok (.istore_n 3, 1) := by decide +kernel
theorem dX5_ring_12 : decode cX5_ring 12 = .ok (.iconst 0, 1) := by decide +kernel
theorem dX5_ring_13 : decode cX5_ring 13 = .ok (.istore 4, 2) := by decide +kernel
theorem dX5_ring_15 : decode cX5_ring 15 = .ok (.iload 4, 2) := by decide +kernel
theorem dX5_ring_17 : decode cX5_ring 17 = .ok (.aload_n 0, 1) := by decide +kernel
theorem dX5_ring_18 : decode cX5_ring 18 = .ok (.getfield 7, 3) := by decide +kernel
theorem dX5_ring_21 : decode cX5_ring 21 = .ok (.if_icmp .ge 47, 3) := by decide +kernel
theorem dX5_ring_24 : decode cX5_ring 24 = .ok (.aload_n 0, 1) := by decide +kernel
theorem dX5_ring_25 : decode cX5_ring 25 = .ok (.iload 4, 2) := by decide +kernel
theorem dX5_ring_27 : decode cX5_ring 27 = .ok (.invokevirtual 105, 3) := by decide +kernel
theorem dX5_ring_30 : decode cX5_ring 30 = .ok (.istore 5, 2) := by decide +kernel
theorem dX5_ring_32 : decode cX5_ring 32 = .ok (.iload 5, 2) := by decide +kernel
theorem dX5_ring_34 : decode cX5_ring 34 = .ok (.ifCond .eq 28, 3) := by decide +kernel
theorem dX5_ring_37 : decode cX5_ring 37 = .ok (.iload_n 2, 1) := by decide +kernel
theorem dX5_ring_38 : decode cX5_ring 38 = .ok (.iload 4, 2) := by decide +kernel
theorem dX5_ring_40 : decode cX5_ring 40 = .ok (.invokestatic 58, 3) := by decide +kernel
theorem dX5_ring_43 : decode cX5_ring 43 = .ok (.ifCond .ne 19, 3) := by decide +kernel
theorem dX5_ring_46 : decode cX5_ring 46 = .ok (.iload_n 3, 1) := by decide +kernel
theorem dX5_ring_47 : decode cX5_ring 47 = .ok (.iload_n 1, 1) := by decide +kernel
theorem dX5_ring_48 : decode cX5_ring 48 = .ok (.if_icmp .ne 6, 3) := by decide +kernel
theorem dX5_ring_51 : decode cX5_ring 51 = .ok (.iload 5, 2) := by decide +kernel
theorem dX5_ring_53 : decode cX5_ring 53 = .ok (.ireturn, 1) := by decide +kernel
theorem dX5_ring_54 : decode cX5_ring 54 = .ok (.iload_n 2, 1) := by decide +kernel
theorem dX5_ring_55 : decode cX5_ring 55 = .ok (.iload 5, 2) := by decide +kernel
theorem dX5_ring_57 : decode cX5_ring 57 = .ok (.ior, 1) := by decide +kernel
theorem dX5_ring_58 : decode cX5_ring 58 = .ok (.istore_n 2, 1) := by decide +kernel
theorem dX5_ring_59 : decode cX5_ring 59 = .ok (.iinc 3 1, 3) := by decide +kernel
theorem dX5_ring_62 : decode cX5_ring 62 = .ok (.iinc 4 1, 3) := by decide +kernel
theorem dX5_ring_65 : decode cX5_ring 65 = .ok (.goto (-50), 3) := by decide +kernel
theorem dX5_ring_68 : decode cX5_ring 68 = .ok (.iload_n 1, 1) := by decide +kernel
theorem dX5_ring_69 : decode cX5_ring 69 = .ok (.iconst (-1), 1) := by decide +kernel
theorem dX5_ring_70 : decode cX5_ring 70 = .ok (.if_icmp .ne 7, 3) := by decide +kernel
theorem dX5_ring_73 : decode cX5_ring 73 = .ok (.iload_n 3, 1) := by decide +kernel
theorem dX5_ring_74 : decode cX5_ring 74 = .ok (.goto 5, 3) := by decide +kernel
theorem dX5_ring_77 : decode cX5_ring 77 = .ok (.bipush (-6), 2) := by decide +kernel
theorem dX5_ring_79 : decode cX5_ring 79 = .ok (.ireturn, 1) := by decide +kernel
set_option maxRecDepth 20000 in
theorem ggX5_ringed_X5_ringOf : GoodIn wsX5_ringed wsX5_ringOf := goodIn_r _ [6, 1, 7, 8, 9, 5, 10, 11, 12, 13, 14, 15, 16, 17, 18, 19, 20, 21, 22, 23, 24, 25, 26, 27, 28] (by decide +kernel) (by decide +kernel)
set_option maxRecDepth 20000 in
theorem gX5_ringed_X5_ringOf : GoodIn wsX5_ringed (wsV RX5 105 RX5 yX5_ringOf wsX5_ringOf) := goodIn_app (goodIn_of _ (by decide +kernel)) ggX5_ringed_X5_ringOf
theorem dX5_ringed_0 : decode cX5_ringed 0 = .ok (.iconst 0, 1) := by decide +kernel
theorem dX5_ringed_1 : decode cX5_ringed 1 = .ok (.istore_n 1, 1) := by decide +kernel
theorem dX5_ringed_2 : decode cX5_ringed 2 = .ok (.iconst 0, 1) := by decide +kernel
theorem dX5_ringed_3 : decode cX5_ringed 3 = .ok (.istore_n 2, 1) := by decide +kernel
theorem dX5_ringed_4 : decode cX5_ringed 4 = .ok (.iload_n 2, 1) := by decide +kernel
theorem dX5_ringed_5 : decode cX5_ringed 5 = .ok (.aload_n 0, 1) := by decide +kernel
theorem dX5_ringed_6 : decode cX5_ringed 6 = .ok (.getfield 7, 3) := by decide +kernel
theorem dX5_ringed_9 : decode cX5_ringed 9 = .ok (.if_icmp .ge 17, 3) := by decide +kernel
theorem dX5_ringed_12 : decode cX5_ringed 12 = .ok (.iload_n 1, 1) := by decide +kernel
theorem dX5_ringed_13 : decode cX5_ringed 13 = .ok (.aload_n 0, 1) := by decide +kernel
theorem dX5_ringed_14 : decode cX5_ringed 14 = .ok (.iload_n 2, 1) := by decide +kernel
theorem dX5_ringed_15 : decode cX5_ringed 15 = .ok (.invokevirtual 105, 3) := by decide +kernel
theorem dX5_ringed_18 : decode cX5_ringed 18 = .ok (.ior, 1) := by decide +kernel
theorem dX5_ringed_19 : decode cX5_ringed 19 = .ok (.istore_n 1, 1) := by decide +kernel
theorem dX5_ringed_20 : decode cX5_ringed 20 = .ok (.iinc 2 1, 3) := by decide +kernel
theorem dX5_ringed_23 : decode cX5_ringed 23 = .ok (.goto (-19), 3) := by decide +kernel
theorem dX5_ringed_26 : decode cX5_ringed 26 = .ok (.iload_n 1, 1) := by decide +kernel
theorem dX5_ringed_27 : decode cX5_ringed 27 = .ok (.ireturn, 1) := by decide +kernel
set_option maxRecDepth 20000 in
theorem ggX5_lies_X5_ringed : GoodIn wsX5_lies wsX5_ringed := goodIn_r _ [6, 1, 7, 8, 9, 5, 10, 11, 12, 13, 14, 15, 16, 17, 18, 19, 20, 21, 22, 23, 24, 25, 26, 27, 28, 29, 30, 31, 32] (by decide +kernel) (by decide +kernel)
set_option maxRecDepth 20000 in
theorem gX5_lies_X5_ringed : GoodIn wsX5_lies (wsV RX5 108 RX5 yX5_ringed wsX5_ringed) := goodIn_app (goodIn_of _ (by decide +kernel)) ggX5_lies_X5_ringed
set_option maxRecDepth 20000 in
theorem ggX5_lies_X5_has : GoodIn wsX5_lies wsX5_has := goodIn_r _ [22] (by decide +kernel) (by decide +kernel)
set_option maxRecDepth 20000 in
theorem gX5_lies_X5_has : GoodIn wsX5_lies (va_wsS RX5 58 yX5_has wsX5_has) := goodIn_app (goodIn_of _ (by decide +kernel)) ggX5_lies_X5_has
set_option maxRecDepth 20000 in
theorem ggX5_lies_X5_wayOf : GoodIn wsX5_lies wsX5_wayOf := goodIn_r _ [14, 1, 15, 16, 17, 5, 18, 19, 20, 21, 22, 23, 24, 25, 26, 27, 28, 29, 30, 31, 32] (by decide +kernel) (by decide +kernel)
set_option maxRecDepth 20000 in
theorem gX5_lies_X5_wayOf : GoodIn wsX5_lies (wsV RX5 102 RX5 yX5_wayOf wsX5_wayOf) := goodIn_app (goodIn_of _ (by decide +kernel)) ggX5_lies_X5_wayOf
theorem dX5_lies_0 : decode cX5_lies 0 = .ok (.aload_n 0, 1) := by decide +kernel
theorem dX5_lies_1 : decode cX5_lies 1 = .ok (.invokevirtual 108, 3) := by decide +kernel
theorem dX5_lies_4 : decode cX5_lies 4 = .ok (.istore_n 3, 1) := by decide +kernel
theorem dX5_lies_5 : decode cX5_lies 5 = .ok (.iconst 0, 1) := by decide +kernel
theorem dX5_lies_6 : decode cX5_lies 6 = .ok (.istore 4, 2) := by decide +kernel
theorem dX5_lies_8 : decode cX5_lies 8 = .ok (.iconst 0, 1) := by decide +kernel
theorem dX5_lies_9 : decode cX5_lies 9 = .ok (.istore 5, 2) := by decide +kernel
theorem dX5_lies_11 : decode cX5_lies 11 = .ok (.iload 5, 2) := by decide +kernel
theorem dX5_lies_13 : decode cX5_lies 13 = .ok (.aload_n 0, 1) := by decide +kernel
theorem dX5_lies_14 : decode cX5_lies 14 = .ok (.getfield 7, 3) := by decide +kernel
theorem dX5_lies_17 : decode cX5_lies 17 = .ok (.if_icmp .ge 55, 3) := by decide +kernel
theorem dX5_lies_20 : decode cX5_lies 20 = .ok (.iload 4, 2) := by decide +kernel
theorem dX5_lies_22 : decode cX5_lies 22 = .ok (.ifCond .ne 37, 3) := by decide +kernel
theorem dX5_lies_25 : decode cX5_lies 25 = .ok (.iload_n 3, 1) := by decide +kernel
theorem dX5_lies_26 : decode cX5_lies 26 = .ok (.iload 5, 2) := by decide +kernel
theorem dX5_lies_28 : decode cX5_lies 28 = .ok (.invokestatic 58, 3) := by decide +kernel
theorem dX5_lies_31 : decode cX5_lies 31 = .ok (.ifCond .eq 32, 3) := by decide +kernel
theorem dX5_lies_34 : decode cX5_lies 34 = .ok (.iload_n 2, 1) := by decide +kernel
theorem dX5_lies_35 : decode cX5_lies 35 = .ok (.iconst 1, 1) := by decide +kernel
theorem dX5_lies_36 : decode cX5_lies 36 = .ok (.if_icmp .ne 13, 3) := by decide +kernel
theorem dX5_lies_39 : decode cX5_lies 39 = .ok (.aload_n 0, 1) := by decide +kernel
theorem dX5_lies_40 : decode cX5_lies 40 = .ok (.iload 5, 2) := by decide +kernel
theorem dX5_lies_42 : decode cX5_lies 42 = .ok (.iload_n 1, 1) := by decide +kernel
theorem dX5_lies_43 : decode cX5_lies 43 = .ok (.invokevirtual 102, 3) := by decide +kernel
theorem dX5_lies_46 : decode cX5_lies 46 = .ok (.goto 10, 3) := by decide +kernel
theorem dX5_lies_49 : decode cX5_lies 49 = .ok (.aload_n 0, 1) := by decide +kernel
theorem dX5_lies_50 : decode cX5_lies 50 = .ok (.iload_n 1, 1) := by decide +kernel
theorem dX5_lies_51 : decode cX5_lies 51 = .ok (.iload 5, 2) := by decide +kernel
theorem dX5_lies_53 : decode cX5_lies 53 = .ok (.invokevirtual 102, 3) := by decide +kernel
theorem dX5_lies_56 : decode cX5_lies 56 = .ok (.ifCond .le 7, 3) := by decide +kernel
theorem dX5_lies_59 : decode cX5_lies 59 = .ok (.iconst 1, 1) := by decide +kernel
theorem dX5_lies_60 : decode cX5_lies 60 = .ok (.goto 4, 3) := by decide +kernel
theorem dX5_lies_63 : decode cX5_lies 63 = .ok (.iconst 0, 1) := by decide +kernel
theorem dX5_lies_64 : decode cX5_lies 64 = .ok (.istore 4, 2) := by decide +kernel
theorem dX5_lies_66 : decode cX5_lies 66 = .ok (.iinc 5 1, 3) := by decide +kernel
theorem dX5_lies_69 : decode cX5_lies 69 = .ok (.goto (-58), 3) := by decide +kernel
theorem dX5_lies_72 : decode cX5_lies 72 = .ok (.iload 4, 2) := by decide +kernel
theorem dX5_lies_74 : decode cX5_lies 74 = .ok (.ifCond .eq 15, 3) := by decide +kernel
theorem dX5_lies_77 : decode cX5_lies 77 = .ok (.iload_n 3, 1) := by decide +kernel
theorem dX5_lies_78 : decode cX5_lies 78 = .ok (.iload_n 1, 1) := by decide +kernel
theorem dX5_lies_79 : decode cX5_lies 79 = .ok (.invokestatic 58, 3) := by decide +kernel
theorem dX5_lies_82 : decode cX5_lies 82 = .ok (.ifCond .ne 7, 3) := by decide +kernel
theorem dX5_lies_85 : decode cX5_lies 85 = .ok (.iconst 1, 1) := by decide +kernel
theorem dX5_lies_86 : decode cX5_lies 86 = .ok (.goto 4, 3) := by decide +kernel
theorem dX5_lies_89 : decode cX5_lies 89 = .ok (.iconst 0, 1) := by decide +kernel
theorem dX5_lies_90 : decode cX5_lies 90 = .ok (.ireturn, 1) := by decide +kernel
set_option maxRecDepth 20000 in
theorem ggX5_lie_X5_in : GoodIn wsX5_lie wsX5_in := goodIn_r _ [6] (by decide +kernel) (by decide +kernel)
set_option maxRecDepth 20000 in
theorem gX5_lie_X5_in : GoodIn wsX5_lie (va_wsS RX5 36 yX5_in wsX5_in) := goodIn_app (goodIn_of _ (by decide +kernel)) ggX5_lie_X5_in
set_option maxRecDepth 20000 in
theorem ggX5_lie_X5_ringOf : GoodIn wsX5_lie wsX5_ringOf := goodIn_r _ [10, 1, 11, 12, 13, 5, 14, 15, 16, 17, 18, 2, 19, 20, 21, 38, 39, 40, 41, 42, 43, 44, 45, 46, 47] (by decide +kernel) (by decide +kernel)
set_option maxRecDepth 20000 in
theorem gX5_lie_X5_ringOf : GoodIn wsX5_lie (wsV RX5 105 RX5 yX5_ringOf wsX5_ringOf) := goodIn_app (goodIn_of _ (by decide +kernel)) ggX5_lie_X5_ringOf
set_option maxRecDepth 20000 in
theorem ggX5_lie_X5_usersOf : GoodIn wsX5_lie wsX5_usersOf := goodIn_r _ [25, 1, 26, 27, 28, 5, 29, 2, 19, 20, 21, 38, 39, 40, 41, 42, 43, 44, 45, 46, 47] (by decide +kernel) (by decide +kernel)
set_option maxRecDepth 20000 in
theorem gX5_lie_X5_usersOf : GoodIn wsX5_lie (wsV RX5 74 RX5 yX5_usersOf wsX5_usersOf) := goodIn_app (goodIn_of _ (by decide +kernel)) ggX5_lie_X5_usersOf
set_option maxRecDepth 20000 in
theorem ggX5_lie_X5_lies : GoodIn wsX5_lie wsX5_lies := goodIn_r _ [33, 1, 34, 35, 36, 5, 37, 7, 8, 9, 10, 11, 12, 13, 14, 15, 16, 17, 18, 2, 19, 20, 21, 38, 39, 40, 41, 42, 43, 44, 45, 46, 47] (by decide +kernel) (by decide +kernel)
set_option maxRecDepth 20000 in
theorem gX5_lie_X5_lies : GoodIn wsX5_lie (wsV RX5 111 RX5 yX5_lies wsX5_lies) := goodIn_app (goodIn_of _ (by decide +kernel)) ggX5_lie_X5_lies
theorem dX5_lie_0 : decode cX5_lie 0 = .ok (.iload_n 1, 1) := by decide +kernel
theorem dX5_lie_1 : decode cX5_lie 1 = .ok (.iconst 0, 1) := by decide +kernel
theorem dX5_lie_2 : decode cX5_lie 2 = .ok (.iconst 4, 1) := by decide +kernel
theorem dX5_lie_3 : decode cX5_lie 3 = .ok (.invokestatic 36, 3) := by decide +kernel
theorem dX5_lie_6 : decode cX5_lie 6 = .ok (.ifCond .ne 6, 3) := by decide +kernel
theorem dX5_lie_9 : decode cX5_lie 9 = .ok (.bipush (-2), 2) := by decide +kernel
theorem dX5_lie_11 : decode cX5_lie 11 = .ok (.ireturn, 1) := by decide +kernel
theorem dX5_lie_12 : decode cX5_lie 12 = .ok (.iconst 0, 1) := by decide +kernel
theorem dX5_lie_13 : decode cX5_lie 13 = .ok (.istore_n 2, 1) := by decide +kernel
theorem dX5_lie_14 : decode cX5_lie 14 = .ok (.iconst 0, 1) := by decide +kernel
theorem dX5_lie_15 : decode cX5_lie 15 = .ok (.istore_n 3, 1) := by decide +kernel
theorem dX5_lie_16 : decode cX5_lie 16 = .ok (.iload_n 3, 1) := by decide +kernel
theorem dX5_lie_17 : decode cX5_lie 17 = .ok (.aload_n 0, 1) := by decide +kernel
theorem dX5_lie_18 : decode cX5_lie 18 = .ok (.getfield 7, 3) := by decide +kernel
theorem dX5_lie_21 : decode cX5_lie 21 = .ok (.if_icmp .ge 95, 3) := by decide +kernel
theorem dX5_lie_24 : decode cX5_lie 24 = .ok (.iload_n 1, 1) := by decide +kernel
theorem dX5_lie_25 : decode cX5_lie 25 = .ok (.ifCond .ne 19, 3) := by decide +kernel
theorem dX5_lie_28 : decode cX5_lie 28 = .ok (.aload_n 0, 1) := by decide +kernel
theorem dX5_lie_29 : decode cX5_lie 29 = .ok (.iload_n 3, 1) := by decide +kernel
theorem dX5_lie_30 : decode cX5_lie 30 = .ok (.invokevirtual 105, 3) := by decide +kernel
theorem dX5_lie_33 : decode cX5_lie 33 = .ok (.ifCond .eq 7, 3) := by decide +kernel
theorem dX5_lie_36 : decode cX5_lie 36 = .ok (.iconst 1, 1) := by decide +kernel
theorem dX5_lie_37 : decode cX5_lie 37 = .ok (.goto 56, 3) := by decide +kernel
theorem dX5_lie_40 : decode cX5_lie 40 = .ok (.iconst 0, 1) := by decide +kernel
theorem dX5_lie_41 : decode cX5_lie 41 = .ok (.goto 52, 3) := by decide +kernel
theorem dX5_lie_44 : decode cX5_lie 44 = .ok (.iload_n 1, 1) := by decide +kernel
theorem dX5_lie_45 : decode cX5_lie 45 = .ok (.iconst 3, 1) := by decide +kernel
theorem dX5_lie_46 : decode cX5_lie 46 = .ok (.if_icmp .ne 19, 3) := by decide +kernel
theorem dX5_lie_49 : decode cX5_lie 49 = .ok (.aload_n 0, 1) := by decide +kernel
theorem dX5_lie_50 : decode cX5_lie 50 = .ok (.iload_n 3, 1) := by decide +kernel
theorem dX5_lie_51 : decode cX5_lie 51 = .ok (.invokevirtual 74, 3) := by decide +kernel
theorem dX5_lie_54 : decode cX5_lie 54 = .ok (.ifCond .ne 7, 3) := by decide +kernel
theorem dX5_lie_57 : decode cX5_lie 57 = .ok (.iconst 1, 1) := by decide +kernel
theorem dX5_lie_58 : decode cX5_lie 58 = .ok (.goto 35, 3) := by decide +kernel
theorem dX5_lie_61 : decode cX5_lie 61 = .ok (.iconst 0, 1) := by decide +kernel
theorem dX5_lie_62 : decode cX5_lie 62 = .ok (.goto 31, 3) := by decide +kernel
theorem dX5_lie_65 : decode cX5_lie 65 = .ok (.iload_n 1, 1) := by decide +kernel
theorem dX5_lie_66 : decode cX5_lie 66 = .ok (.iconst 4, 1) := by decide +kernel
theorem dX5_lie_67 : decode cX5_lie 67 = .ok (.if_icmp .ne 20, 3) := by decide +kernel
theorem dX5_lie_70 : decode cX5_lie 70 = .ok (.aload_n 0, 1) := by decide +kernel
theorem dX5_lie_71 : decode cX5_lie 71 = .ok (.getfield 13, 3) := by decide +kernel
theorem dX5_lie_74 : decode cX5_lie 74 = .ok (.iload_n 3, 1) := by decide +kernel
theorem dX5_lie_75 : decode cX5_lie 75 = .ok (.iaload, 1) := by decide +kernel
theorem dX5_lie_76 : decode cX5_lie 76 = .ok (.ifCond .ge 7, 3) := by decide +kernel
theorem dX5_lie_79 : decode cX5_lie 79 = .ok (.iconst 1, 1) := by decide +kernel
theorem dX5_lie_80 : decode cX5_lie 80 = .ok (.goto 13, 3) := by decide +kernel
theorem dX5_lie_83 : decode cX5_lie 83 = .ok (.iconst 0, 1) := by decide +kernel
theorem dX5_lie_84 : decode cX5_lie 84 = .ok (.goto 9, 3) := by decide +kernel
theorem dX5_lie_87 : decode cX5_lie 87 = .ok (.aload_n 0, 1) := by decide +kernel
theorem dX5_lie_88 : decode cX5_lie 88 = .ok (.iload_n 3, 1) := by decide +kernel
theorem dX5_lie_89 : decode cX5_lie 89 = .ok (.iload_n 1, 1) := by decide +kernel
theorem dX5_lie_90 : decode cX5_lie 90 = .ok (.invokevirtual 111, 3) := by decide +kernel
theorem dX5_lie_93 : decode cX5_lie 93 = .ok (.istore 4, 2) := by decide +kernel
theorem dX5_lie_95 : decode cX5_lie 95 = .ok (.iload_n 2, 1) := by decide +kernel
theorem dX5_lie_96 : decode cX5_lie 96 = .ok (.iload 4, 2) := by decide +kernel
theorem dX5_lie_98 : decode cX5_lie 98 = .ok (.ifCond .eq 9, 3) := by decide +kernel
theorem dX5_lie_101 : decode cX5_lie 101 = .ok (.iconst 1, 1) := by decide +kernel
theorem dX5_lie_102 : decode cX5_lie 102 = .ok (.iload_n 3, 1) := by decide +kernel
theorem dX5_lie_103 : decode cX5_lie 103 = .ok (.ishl, 1) := by decide +kernel
theorem dX5_lie_104 : decode cX5_lie 104 = .ok (.goto 4, 3) := by decide +kernel
theorem dX5_lie_107 : decode cX5_lie 107 = .ok (.iconst 0, 1) := by decide +kernel
theorem dX5_lie_108 : decode cX5_lie 108 = .ok (.ior, 1) := by decide +kernel
theorem dX5_lie_109 : decode cX5_lie 109 = .ok (.istore_n 2, 1) := by decide +kernel
theorem dX5_lie_110 : decode cX5_lie 110 = .ok (.iinc 3 1, 3) := by decide +kernel
theorem dX5_lie_113 : decode cX5_lie 113 = .ok (.goto (-97), 3) := by decide +kernel
theorem dX5_lie_116 : decode cX5_lie 116 = .ok (.iload_n 2, 1) := by decide +kernel
theorem dX5_lie_117 : decode cX5_lie 117 = .ok (.ireturn, 1) := by decide +kernel
set_option maxRecDepth 20000 in
theorem ggX5_image_X5_in : GoodIn wsX5_image wsX5_in := goodIn_r _ [10] (by decide +kernel) (by decide +kernel)
set_option maxRecDepth 20000 in
theorem gX5_image_X5_in : GoodIn wsX5_image (va_wsS RX5 36 yX5_in wsX5_in) := goodIn_app (goodIn_of _ (by decide +kernel)) ggX5_image_X5_in
theorem dX5_image_0 : decode cX5_image 0 = .ok (.iload_n 1, 1) := by decide +kernel
theorem dX5_image_1 : decode cX5_image 1 = .ok (.iconst 0, 1) := by decide +kernel
theorem dX5_image_2 : decode cX5_image 2 = .ok (.iconst 1, 1) := by decide +kernel
theorem dX5_image_3 : decode cX5_image 3 = .ok (.invokestatic 36, 3) := by decide +kernel
theorem dX5_image_6 : decode cX5_image 6 = .ok (.ifCond .ne 6, 3) := by decide +kernel
theorem dX5_image_9 : decode cX5_image 9 = .ok (.bipush (-2), 2) := by decide +kernel
theorem dX5_image_11 : decode cX5_image 11 = .ok (.ireturn, 1) := by decide +kernel
theorem dX5_image_12 : decode cX5_image 12 = .ok (.aload_n 0, 1) := by decide +kernel
theorem dX5_image_13 : decode cX5_image 13 = .ok (.getfield 30, 3) := by decide +kernel
theorem dX5_image_16 : decode cX5_image 16 = .ok (.bipush 30, 2) := by decide +kernel
theorem dX5_image_18 : decode cX5_image 18 = .ok (.iload_n 1, 1) := by decide +kernel
theorem dX5_image_19 : decode cX5_image 19 = .ok (.imul, 1) := by decide +kernel
theorem dX5_image_20 : decode cX5_image 20 = .ok (.aload_n 0, 1) := by decide +kernel
theorem dX5_image_21 : decode cX5_image 21 = .ok (.getfield 7, 3) := by decide +kernel
theorem dX5_image_24 : decode cX5_image 24 = .ok (.iastore, 1) := by decide +kernel
theorem dX5_image_25 : decode cX5_image 25 = .ok (.aload_n 0, 1) := by decide +kernel
theorem dX5_image_26 : decode cX5_image 26 = .ok (.getfield 30, 3) := by decide +kernel
theorem dX5_image_29 : decode cX5_image 29 = .ok (.bipush 30, 2) := by decide +kernel
theorem dX5_image_31 : decode cX5_image 31 = .ok (.iload_n 1, 1) := by decide +kernel
theorem dX5_image_32 : decode cX5_image 32 = .ok (.imul, 1) := by decide +kernel
theorem dX5_image_33 : decode cX5_image 33 = .ok (.iconst 1, 1) := by decide +kernel
theorem dX5_image_34 : decode cX5_image 34 = .ok (.iadd, 1) := by decide +kernel
theorem dX5_image_35 : decode cX5_image 35 = .ok (.aload_n 0, 1) := by decide +kernel
theorem dX5_image_36 : decode cX5_image 36 = .ok (.getfield 44, 3) := by decide +kernel
theorem dX5_image_39 : decode cX5_image 39 = .ok (.iastore, 1) := by decide +kernel
theorem dX5_image_40 : decode cX5_image 40 = .ok (.iconst 0, 1) := by decide +kernel
