set_option maxRecDepth 20000 in
theorem gX5_strikesOf_X5_of : GoodIn wsX5_strikesOf (wsV RX5 155 RX5 yX5_of wsX5_of) := goodIn_app (goodIn_of _ (by decide +kernel)) ggX5_strikesOf_X5_of
theorem dX5_strikesOf_0 : decode cX5_strikesOf 0 = .ok (.aload_n 0, 1) := by decide +kernel
theorem dX5_strikesOf_1 : decode cX5_strikesOf 1 = .ok (.iload_n 1, 1) := by decide +kernel
theorem dX5_strikesOf_2 : decode cX5_strikesOf 2 = .ok (.aload_n 0, 1) := by decide +kernel
theorem dX5_strikesOf_3 : decode cX5_strikesOf 3 = .ok (.getfield 32, 3) := by decide +kernel
theorem dX5_strikesOf_6 : decode cX5_strikesOf 6 = .ok (.invokevirtual 155, 3) := by decide +kernel
theorem dX5_strikesOf_9 : decode cX5_strikesOf 9 = .ok (.ireturn, 1) := by decide +kernel
set_option maxRecDepth 20000 in
theorem ggX5_sparesOf_X5_of : GoodIn wsX5_sparesOf wsX5_of := goodIn_r _ [6, 7, 8, 9, 10, 5, 11, 12, 13, 14, 15, 16, 17, 18, 19, 20, 21, 22, 23, 24, 25, 26, 27, 28, 29, 30, 31, 32, 33, 34] (by decide +kernel) (by decide +kernel)
set_option maxRecDepth 20000 in
theorem gX5_sparesOf_X5_of : GoodIn wsX5_sparesOf (wsV RX5 155 RX5 yX5_of wsX5_of) := goodIn_app (goodIn_of _ (by decide +kernel)) ggX5_sparesOf_X5_of
theorem dX5_sparesOf_0 : decode cX5_sparesOf 0 = .ok (.aload_n 0, 1) := by decide +kernel
theorem dX5_sparesOf_1 : decode cX5_sparesOf 1 = .ok (.iload_n 1, 1) := by decide +kernel
theorem dX5_sparesOf_2 : decode cX5_sparesOf 2 = .ok (.aload_n 0, 1) := by decide +kernel
theorem dX5_sparesOf_3 : decode cX5_sparesOf 3 = .ok (.getfield 35, 3) := by decide +kernel
theorem dX5_sparesOf_6 : decode cX5_sparesOf 6 = .ok (.invokevirtual 155, 3) := by decide +kernel
theorem dX5_sparesOf_9 : decode cX5_sparesOf 9 = .ok (.ireturn, 1) := by decide +kernel
set_option maxRecDepth 20000 in
theorem ggX5_leader_X5_first : GoodIn wsX5_leader wsX5_first := goodIn_r _ [5, 6, 7, 8, 9, 4, 10, 11, 12, 13, 14, 15, 16, 17, 18, 19, 20, 21, 22, 23, 24, 25, 26, 27, 28, 29, 30, 31, 32, 38, 39, 40, 41, 42, 43, 44, 45, 46, 47, 48, 49, 50, 51, 52] (by decide +kernel) (by decide +kernel)
set_option maxRecDepth 20000 in
theorem gX5_leader_X5_first : GoodIn wsX5_leader (wsV RX5 137 RX5 yX5_first wsX5_first) := goodIn_app (goodIn_of _ (by decide +kernel)) ggX5_leader_X5_first
set_option maxRecDepth 20000 in
theorem ggX5_leader_X5_ok : GoodIn wsX5_leader wsX5_ok := goodIn_r _ [36, 37, 38, 39, 40, 41, 42, 43, 44, 45, 46, 47, 48, 49, 50, 51, 52] (by decide +kernel) (by decide +kernel)
set_option maxRecDepth 20000 in
theorem gX5_leader_X5_ok : GoodIn wsX5_leader (wsV RX5 143 RX5 yX5_ok wsX5_ok) := goodIn_app (goodIn_of _ (by decide +kernel)) ggX5_leader_X5_ok
theorem dX5_leader_0 : decode cX5_leader 0 = .ok (.aload_n 0, 1) := by decide +kernel
theorem dX5_leader_1 : decode cX5_leader 1 = .ok (.aload_n 0, 1) := by decide +kernel
theorem dX5_leader_2 : decode cX5_leader 2 = .ok (.invokevirtual 137, 3) := by decide +kernel
theorem dX5_leader_5 : decode cX5_leader 5 = .ok (.invokevirtual 143, 3) := by decide +kernel
theorem dX5_leader_8 : decode cX5_leader 8 = .ok (.ireturn, 1) := by decide +kernel
set_option maxRecDepth 20000 in
theorem ggX5_wouldFall_X5_isThrow : GoodIn wsX5_wouldFall wsX5_isThrow := goodIn_r _ [6, 7, 8, 5, 9] (by decide +kernel) (by decide +kernel)
set_option maxRecDepth 20000 in
theorem gX5_wouldFall_X5_isThrow : GoodIn wsX5_wouldFall (va_wsS RX5 121 yX5_isThrow wsX5_isThrow) := goodIn_app (goodIn_of _ (by decide +kernel)) ggX5_wouldFall_X5_isThrow
set_option maxRecDepth 20000 in
theorem ggX5_wouldFall_X5_roll : GoodIn wsX5_wouldFall wsX5_roll := goodIn_r _ [12, 13, 14, 5, 15, 16, 7, 8, 9, 17, 18, 19, 20, 21] (by decide +kernel) (by decide +kernel)
set_option maxRecDepth 20000 in
theorem gX5_wouldFall_X5_roll : GoodIn wsX5_wouldFall (va_wsS RX5 107 yX5_roll wsX5_roll) := goodIn_app (goodIn_of _ (by decide +kernel)) ggX5_wouldFall_X5_roll
set_option maxRecDepth 20000 in
theorem ggX5_wouldFall_J6_bitCount_0f7a4 : GoodIn wsX5_wouldFall wsJ6_bitCount_0f7a4 := goodIn_r _ [25, 26, 27, 28] (by decide +kernel) (by decide +kernel)
set_option maxRecDepth 20000 in
theorem gX5_wouldFall_J6_bitCount_0f7a4 : GoodIn wsX5_wouldFall (va_wsS RX5 110 yJ6_bitCount_0f7a4 wsJ6_bitCount_0f7a4) := goodIn_app (goodIn_of _ (by decide +kernel)) ggX5_wouldFall_J6_bitCount_0f7a4
set_option maxRecDepth 20000 in
theorem ggX5_wouldFall_X5_no : GoodIn wsX5_wouldFall wsX5_no := goodIn_r _ [32, 1, 33, 34, 35, 36, 37, 38, 39, 40, 41, 42, 43, 44, 45, 46, 47] (by decide +kernel) (by decide +kernel)
set_option maxRecDepth 20000 in
theorem gX5_wouldFall_X5_no : GoodIn wsX5_wouldFall (wsV RX5 79 RX5 yX5_no wsX5_no) := goodIn_app (goodIn_of _ (by decide +kernel)) ggX5_wouldFall_X5_no
theorem dX5_wouldFall_0 : decode cX5_wouldFall 0 = .ok (.aload_n 0, 1) := by decide +kernel
theorem dX5_wouldFall_1 : decode cX5_wouldFall 1 = .ok (.iconst 0, 1) := by decide +kernel
theorem dX5_wouldFall_2 : decode cX5_wouldFall 2 = .ok (.putfield 41, 3) := by decide +kernel
theorem dX5_wouldFall_5 : decode cX5_wouldFall 5 = .ok (.iload_n 1, 1) := by decide +kernel
theorem dX5_wouldFall_6 : decode cX5_wouldFall 6 = .ok (.iload_n 2, 1) := by decide +kernel
theorem dX5_wouldFall_7 : decode cX5_wouldFall 7 = .ok (.invokestatic 121, 3) := by decide +kernel
theorem dX5_wouldFall_10 : decode cX5_wouldFall 10 = .ok (.ifCond .eq 23, 3) := by decide +kernel
theorem dX5_wouldFall_13 : decode cX5_wouldFall 13 = .ok (.aload_n 0, 1) := by decide +kernel
theorem dX5_wouldFall_14 : decode cX5_wouldFall 14 = .ok (.getfield 9, 3) := by decide +kernel
theorem dX5_wouldFall_17 : decode cX5_wouldFall 17 = .ok (.aload_n 0, 1) := by decide +kernel
theorem dX5_wouldFall_18 : decode cX5_wouldFall 18 = .ok (.getfield 9, 3) := by decide +kernel
theorem dX5_wouldFall_21 : decode cX5_wouldFall 21 = .ok (.iload_n 1, 1) := by decide +kernel
theorem dX5_wouldFall_22 : decode cX5_wouldFall 22 = .ok (.iload_n 2, 1) := by decide +kernel
theorem dX5_wouldFall_23 : decode cX5_wouldFall 23 = .ok (.invokestatic 107, 3) := by decide +kernel
theorem dX5_wouldFall_26 : decode cX5_wouldFall 26 = .ok (.ixor, 1) := by decide +kernel
theorem dX5_wouldFall_27 : decode cX5_wouldFall 27 = .ok (.invokestatic 110, 3) := by decide +kernel
theorem dX5_wouldFall_30 : decode cX5_wouldFall 30 = .ok (.goto 8, 3) := by decide +kernel
theorem dX5_wouldFall_33 : decode cX5_wouldFall 33 = .ok (.aload_n 0, 1) := by decide +kernel
theorem dX5_wouldFall_34 : decode cX5_wouldFall 34 = .ok (.iconst 1, 1) := by decide +kernel
theorem dX5_wouldFall_35 : decode cX5_wouldFall 35 = .ok (.invokevirtual 79, 3) := by decide +kernel
theorem dX5_wouldFall_38 : decode cX5_wouldFall 38 = .ok (.ireturn, 1) := by decide +kernel
set_option maxRecDepth 20000 in
theorem ggX5_lastToFall_X5_isThrow : GoodIn wsX5_lastToFall wsX5_isThrow := goodIn_r _ [6, 7, 8, 5, 9] (by decide +kernel) (by decide +kernel)
set_option maxRecDepth 20000 in
theorem gX5_lastToFall_X5_isThrow : GoodIn wsX5_lastToFall (va_wsS RX5 121 yX5_isThrow wsX5_isThrow) := goodIn_app (goodIn_of _ (by decide +kernel)) ggX5_lastToFall_X5_isThrow
set_option maxRecDepth 20000 in
theorem ggX5_lastToFall_X5_no : GoodIn wsX5_lastToFall wsX5_no := goodIn_r _ [13, 1, 31, 32, 33, 34, 35, 36, 37, 38, 39, 40, 41, 42, 43, 44, 45] (by decide +kernel) (by decide +kernel)
set_option maxRecDepth 20000 in
theorem gX5_lastToFall_X5_no : GoodIn wsX5_lastToFall (wsV RX5 79 RX5 yX5_no wsX5_no) := goodIn_app (goodIn_of _ (by decide +kernel)) ggX5_lastToFall_X5_no
set_option maxRecDepth 20000 in
theorem ggX5_lastToFall_X5_roll : GoodIn wsX5_lastToFall wsX5_roll := goodIn_r _ [16, 17, 18, 5, 19, 20, 7, 8, 9, 21, 22, 23, 24, 25] (by decide +kernel) (by decide +kernel)
set_option maxRecDepth 20000 in
theorem gX5_lastToFall_X5_roll : GoodIn wsX5_lastToFall (va_wsS RX5 107 yX5_roll wsX5_roll) := goodIn_app (goodIn_of _ (by decide +kernel)) ggX5_lastToFall_X5_roll
set_option maxRecDepth 20000 in
theorem ggX5_lastToFall_J6_numberOfLeadingZeros_0f7a4 : GoodIn wsX5_lastToFall wsJ6_numberOfLeadingZeros_0f7a4 := goodIn_r _ [29, 30] (by decide +kernel) (by decide +kernel)
set_option maxRecDepth 20000 in
theorem gX5_lastToFall_J6_numberOfLeadingZeros_0f7a4 : GoodIn wsX5_lastToFall (va_wsS RX5 159 yJ6_numberOfLeadingZeros_0f7a4 wsJ6_numberOfLeadingZeros_0f7a4) := goodIn_app (goodIn_of _ (by decide +kernel)) ggX5_lastToFall_J6_numberOfLeadingZeros_0f7a4
theorem dX5_lastToFall_0 : decode cX5_lastToFall 0 = .ok (.aload_n 0, 1) := by decide +kernel
theorem dX5_lastToFall_1 : decode cX5_lastToFall 1 = .ok (.iconst 0, 1) := by decide +kernel
theorem dX5_lastToFall_2 : decode cX5_lastToFall 2 = .ok (.putfield 41, 3) := by decide +kernel
theorem dX5_lastToFall_5 : decode cX5_lastToFall 5 = .ok (.iload_n 1, 1) := by decide +kernel
theorem dX5_lastToFall_6 : decode cX5_lastToFall 6 = .ok (.iload_n 2, 1) := by decide +kernel
theorem dX5_lastToFall_7 : decode cX5_lastToFall 7 = .ok (.invokestatic 121, 3) := by decide +kernel
theorem dX5_lastToFall_10 : decode cX5_lastToFall 10 = .ok (.ifCond .ne 9, 3) := by decide +kernel
theorem dX5_lastToFall_13 : decode cX5_lastToFall 13 = .ok (.aload_n 0, 1) := by decide +kernel
theorem dX5_lastToFall_14 : decode cX5_lastToFall 14 = .ok (.iconst 1, 1) := by decide +kernel
theorem dX5_lastToFall_15 : decode cX5_lastToFall 15 = .ok (.invokevirtual 79, 3) := by decide +kernel
theorem dX5_lastToFall_18 : decode cX5_lastToFall 18 = .ok (.ireturn, 1) := by decide +kernel
theorem dX5_lastToFall_19 : decode cX5_lastToFall 19 = .ok (.aload_n 0, 1) := by decide +kernel
theorem dX5_lastToFall_20 : decode cX5_lastToFall 20 = .ok (.getfield 9, 3) := by decide +kernel
theorem dX5_lastToFall_23 : decode cX5_lastToFall 23 = .ok (.aload_n 0, 1) := by decide +kernel
theorem dX5_lastToFall_24 : decode cX5_lastToFall 24 = .ok (.getfield 9, 3) := by decide +kernel
theorem dX5_lastToFall_27 : decode cX5_lastToFall 27 = .ok (.iload_n 1, 1) := by decide +kernel
theorem dX5_lastToFall_28 : decode cX5_lastToFall 28 = .ok (.iload_n 2, 1) := by decide +kernel
theorem dX5_lastToFall_29 : decode cX5_lastToFall 29 = .ok (.invokestatic 107, 3) := by decide +kernel
theorem dX5_lastToFall_32 : decode cX5_lastToFall 32 = .ok (.ixor, 1) := by decide +kernel
theorem dX5_lastToFall_33 : decode cX5_lastToFall 33 = .ok (.istore_n 3, 1) := by decide +kernel
theorem dX5_lastToFall_34 : decode cX5_lastToFall 34 = .ok (.iload_n 3, 1) := by decide +kernel
theorem dX5_lastToFall_35 : decode cX5_lastToFall 35 = .ok (.ifCond .ne 7, 3) := by decide +kernel
theorem dX5_lastToFall_38 : decode cX5_lastToFall 38 = .ok (.iconst (-1), 1) := by decide +kernel
theorem dX5_lastToFall_39 : decode cX5_lastToFall 39 = .ok (.goto 10, 3) := by decide +kernel
theorem dX5_lastToFall_42 : decode cX5_lastToFall 42 = .ok (.bipush 31, 2) := by decide +kernel
theorem dX5_lastToFall_44 : decode cX5_lastToFall 44 = .ok (.iload_n 3, 1) := by decide +kernel
theorem dX5_lastToFall_45 : decode cX5_lastToFall 45 = .ok (.invokestatic 159, 3) := by decide +kernel
theorem dX5_lastToFall_48 : decode cX5_lastToFall 48 = .ok (.isub, 1) := by decide +kernel
theorem dX5_lastToFall_49 : decode cX5_lastToFall 49 = .ok (.ireturn, 1) := by decide +kernel
set_option maxRecDepth 20000 in
theorem ggX5_best_X5_roll : GoodIn wsX5_best wsX5_roll := goodIn_r _ [6, 7, 8, 5, 9, 10, 11, 12, 13, 14, 15, 16, 17, 18] (by decide +kernel) (by decide +kernel)
set_option maxRecDepth 20000 in
theorem gX5_best_X5_roll : GoodIn wsX5_best (va_wsS RX5 107 yX5_roll wsX5_roll) := goodIn_app (goodIn_of _ (by decide +kernel)) ggX5_best_X5_roll
set_option maxRecDepth 20000 in
theorem ggX5_best_J6_bitCount_0f7a4 : GoodIn wsX5_best wsJ6_bitCount_0f7a4 := goodIn_r _ [22, 23, 24, 25] (by decide +kernel) (by decide +kernel)
set_option maxRecDepth 20000 in
theorem gX5_best_J6_bitCount_0f7a4 : GoodIn wsX5_best (va_wsS RX5 110 yJ6_bitCount_0f7a4 wsJ6_bitCount_0f7a4) := goodIn_app (goodIn_of _ (by decide +kernel)) ggX5_best_J6_bitCount_0f7a4
theorem dX5_best_0 : decode cX5_best 0 = .ok (.iconst (-1), 1) := by decide +kernel
theorem dX5_best_1 : decode cX5_best 1 = .ok (.istore_n 1, 1) := by decide +kernel
theorem dX5_best_2 : decode cX5_best 2 = .ok (.iconst (-1), 1) := by decide +kernel
theorem dX5_best_3 : decode cX5_best 3 = .ok (.istore_n 2, 1) := by decide +kernel
theorem dX5_best_4 : decode cX5_best 4 = .ok (.iconst 0, 1) := by decide +kernel
theorem dX5_best_5 : decode cX5_best 5 = .ok (.istore_n 3, 1) := by decide +kernel
theorem dX5_best_6 : decode cX5_best 6 = .ok (.iload_n 3, 1) := by decide +kernel
theorem dX5_best_7 : decode cX5_best 7 = .ok (.iconst 5, 1) := by decide +kernel
theorem dX5_best_8 : decode cX5_best 8 = .ok (.if_icmp .ge 73, 3) := by decide +kernel
theorem dX5_best_11 : decode cX5_best 11 = .ok (.iconst 0, 1) := by decide +kernel
theorem dX5_best_12 : decode cX5_best 12 = .ok (.istore 4, 2) := by decide +kernel
theorem dX5_best_14 : decode cX5_best 14 = .ok (.iload 4, 2) := by decide +kernel
theorem dX5_best_16 : decode cX5_best 16 = .ok (.iconst 5, 1) := by decide +kernel
theorem dX5_best_17 : decode cX5_best 17 = .ok (.if_icmp .ge 58, 3) := by decide +kernel
theorem dX5_best_20 : decode cX5_best 20 = .ok (.aload_n 0, 1) := by decide +kernel
theorem dX5_best_21 : decode cX5_best 21 = .ok (.getfield 17, 3) := by decide +kernel
theorem dX5_best_24 : decode cX5_best 24 = .ok (.iload_n 3, 1) := by decide +kernel
theorem dX5_best_25 : decode cX5_best 25 = .ok (.iaload, 1) := by decide +kernel
theorem dX5_best_26 : decode cX5_best 26 = .ok (.ifCond .ne 49, 3) := by decide +kernel
theorem dX5_best_29 : decode cX5_best 29 = .ok (.aload_n 0, 1) := by decide +kernel
theorem dX5_best_30 : decode cX5_best 30 = .ok (.getfield 9, 3) := by decide +kernel
theorem dX5_best_33 : decode cX5_best 33 = .ok (.aload_n 0, 1) := by decide +kernel
theorem dX5_best_34 : decode cX5_best 34 = .ok (.getfield 9, 3) := by decide +kernel
theorem dX5_best_37 : decode cX5_best 37 = .ok (.iload_n 3, 1) := by decide +kernel
theorem dX5_best_38 : decode cX5_best 38 = .ok (.iload 4, 2) := by decide +kernel
theorem dX5_best_40 : decode cX5_best 40 = .ok (.invokestatic 107, 3) := by decide +kernel
theorem dX5_best_43 : decode cX5_best 43 = .ok (.ixor, 1) := by decide +kernel
theorem dX5_best_44 : decode cX5_best 44 = .ok (.invokestatic 110, 3) := by decide +kernel
theorem dX5_best_47 : decode cX5_best 47 = .ok (.istore 5, 2) := by decide +kernel
theorem dX5_best_49 : decode cX5_best 49 = .ok (.iload 5, 2) := by decide +kernel
theorem dX5_best_51 : decode cX5_best 51 = .ok (.iload_n 2, 1) := by decide +kernel
theorem dX5_best_52 : decode cX5_best 52 = .ok (.if_icmp .gt 6, 3) := by decide +kernel
theorem dX5_best_55 : decode cX5_best 55 = .ok (.goto 14, 3) := by decide +kernel
theorem dX5_best_58 : decode cX5_best 58 = .ok (.bipush 10, 2) := by decide +kernel
theorem dX5_best_60 : decode cX5_best 60 = .ok (.iload_n 3, 1) := by decide +kernel
theorem dX5_best_61 : decode cX5_best 61 = .ok (.imul, 1) := by decide +kernel
theorem dX5_best_62 : decode cX5_best 62 = .ok (.iload 4, 2) := by decide +kernel
theorem dX5_best_64 : decode cX5_best 64 = .ok (.iadd, 1) := by decide +kernel
theorem dX5_best_65 : decode cX5_best 65 = .ok (.istore_n 1, 1) := by decide +kernel
theorem dX5_best_66 : decode cX5_best 66 = .ok (.iload 5, 2) := by decide +kernel
theorem dX5_best_68 : decode cX5_best 68 = .ok (.istore_n 2, 1) := by decide +kernel
theorem dX5_best_69 : decode cX5_best 69 = .ok (.iinc 4 1, 3) := by decide +kernel
theorem dX5_best_72 : decode cX5_best 72 = .ok (.goto (-58), 3) := by decide +kernel
theorem dX5_best_75 : decode cX5_best 75 = .ok (.iinc 3 1, 3) := by decide +kernel
theorem dX5_best_78 : decode cX5_best 78 = .ok (.goto (-72), 3) := by decide +kernel
theorem dX5_best_81 : decode cX5_best 81 = .ok (.iload_n 1, 1) := by decide +kernel
theorem dX5_best_82 : decode cX5_best 82 = .ok (.ireturn, 1) := by decide +kernel
set_option maxRecDepth 20000 in
theorem ggX5_bestThrow_X5_best : GoodIn wsX5_bestThrow wsX5_best := goodIn_r _ [5, 6, 7, 8, 9, 4, 10, 11, 12, 13, 14, 15, 16, 17, 18, 19, 20, 21, 22, 23, 24, 25, 26, 27, 28, 29, 35, 36, 37, 38, 39, 40, 41, 42, 43, 44, 45, 46, 47, 48, 49] (by decide +kernel) (by decide +kernel)
set_option maxRecDepth 20000 in
theorem gX5_bestThrow_X5_best : GoodIn wsX5_bestThrow (wsV RX5 162 RX5 yX5_best wsX5_best) := goodIn_app (goodIn_of _ (by decide +kernel)) ggX5_bestThrow_X5_best
set_option maxRecDepth 20000 in
theorem ggX5_bestThrow_X5_ok : GoodIn wsX5_bestThrow wsX5_ok := goodIn_r _ [33, 34, 35, 36, 37, 38, 39, 40, 41, 42, 43, 44, 45, 46, 47, 48, 49] (by decide +kernel) (by decide +kernel)
set_option maxRecDepth 20000 in
theorem gX5_bestThrow_X5_ok : GoodIn wsX5_bestThrow (wsV RX5 143 RX5 yX5_ok wsX5_ok) := goodIn_app (goodIn_of _ (by decide +kernel)) ggX5_bestThrow_X5_ok
theorem dX5_bestThrow_0 : decode cX5_bestThrow 0 = .ok (.aload_n 0, 1) := by decide +kernel
theorem dX5_bestThrow_1 : decode cX5_bestThrow 1 = .ok (.aload_n 0, 1) := by decide +kernel
theorem dX5_bestThrow_2 : decode cX5_bestThrow 2 = .ok (.invokevirtual 162, 3) := by decide +kernel
theorem dX5_bestThrow_5 : decode cX5_bestThrow 5 = .ok (.invokevirtual 143, 3) := by decide +kernel
theorem dX5_bestThrow_8 : decode cX5_bestThrow 8 = .ok (.ireturn, 1) := by decide +kernel
set_option maxRecDepth 20000 in
theorem ggX5_isCleared_X5_roll : GoodIn wsX5_isCleared wsX5_roll := goodIn_r _ [4, 5, 6, 3, 7, 8, 9, 10, 11, 12, 13, 14, 15, 16] (by decide +kernel) (by decide +kernel)
set_option maxRecDepth 20000 in
theorem gX5_isCleared_X5_roll : GoodIn wsX5_isCleared (va_wsS RX5 107 yX5_roll wsX5_roll) := goodIn_app (goodIn_of _ (by decide +kernel)) ggX5_isCleared_X5_roll
set_option maxRecDepth 20000 in
theorem ggX5_isCleared_X5_isCleared : GoodIn wsX5_isCleared wsX5_isCleared := goodIn_r _ [0, 1, 2, 3, 4, 5, 6, 7, 8, 9, 10, 11, 12, 13, 14, 15, 16, 17, 18] (by decide +kernel) (by decide +kernel)
set_option maxRecDepth 20000 in
theorem gX5_isCleared_X5_isCleared : GoodIn wsX5_isCleared (va_wsS RX5 165 yX5_isCleared wsX5_isCleared) := goodIn_app (goodIn_of _ (by decide +kernel)) ggX5_isCleared_X5_isCleared
theorem dX5_isCleared_0 : decode cX5_isCleared 0 = .ok (.iload_n 0, 1) := by decide +kernel
theorem dX5_isCleared_1 : decode cX5_isCleared 1 = .ok (.ifCond .ne 5, 3) := by decide +kernel
theorem dX5_isCleared_4 : decode cX5_isCleared 4 = .ok (.iconst 1, 1) := by decide +kernel
theorem dX5_isCleared_5 : decode cX5_isCleared 5 = .ok (.ireturn, 1) := by decide +kernel
theorem dX5_isCleared_6 : decode cX5_isCleared 6 = .ok (.iconst 0, 1) := by decide +kernel
theorem dX5_isCleared_7 : decode cX5_isCleared 7 = .ok (.istore_n 3, 1) := by decide +kernel
theorem dX5_isCleared_8 : decode cX5_isCleared 8 = .ok (.iload_n 3, 1) := by decide +kernel
theorem dX5_isCleared_9 : decode cX5_isCleared 9 = .ok (.iconst 5, 1) := by decide +kernel
theorem dX5_isCleared_10 : decode cX5_isCleared 10 = .ok (.if_icmp .ge 73, 3) := by decide +kernel
theorem dX5_isCleared_13 : decode cX5_isCleared 13 = .ok (.iload_n 2, 1) := by decide +kernel
theorem dX5_isCleared_14 : decode cX5_isCleared 14 = .ok (.ifCond .le 69, 3) := by decide +kernel
theorem dX5_isCleared_17 : decode cX5_isCleared 17 = .ok (.iload_n 1, 1) := by decide +kernel
theorem dX5_isCleared_18 : decode cX5_isCleared 18 = .ok (.iload_n 3, 1) := by decide +kernel
theorem dX5_isCleared_19 : decode cX5_isCleared 19 = .ok (.ishr, 1) := by decide +kernel
theorem dX5_isCleared_20 : decode cX5_isCleared 20 = .ok (.iconst 1, 1) := by decide +kernel
theorem dX5_isCleared_21 : decode cX5_isCleared 21 = .ok (.iand, 1) := by decide +kernel
theorem dX5_isCleared_22 : decode cX5_isCleared 22 = .ok (.iconst 1, 1) := by decide +kernel
theorem dX5_isCleared_23 : decode cX5_isCleared 23 = .ok (.if_icmp .ne 6, 3) := by decide +kernel
theorem dX5_isCleared_26 : decode cX5_isCleared 26 = .ok (.goto 51, 3) := by decide +kernel
theorem dX5_isCleared_29 : decode cX5_isCleared 29 = .ok (.iconst 0, 1) := by decide +kernel
theorem dX5_isCleared_30 : decode cX5_isCleared 30 = .ok (.istore 4, 2) := by decide +kernel
theorem dX5_isCleared_32 : decode cX5_isCleared 32 = .ok (.iload 4, 2) := by decide +kernel
theorem dX5_isCleared_34 : decode cX5_isCleared 34 = .ok (.iconst 5, 1) := by decide +kernel
theorem dX5_isCleared_35 : decode cX5_isCleared 35 = .ok (.if_icmp .ge 42, 3) := by decide +kernel
theorem dX5_isCleared_38 : decode cX5_isCleared 38 = .ok (.iload_n 0, 1) := by decide +kernel
theorem dX5_isCleared_39 : decode cX5_isCleared 39 = .ok (.iload_n 3, 1) := by decide +kernel
theorem dX5_isCleared_40 : decode cX5_isCleared 40 = .ok (.iload 4, 2) := by decide +kernel
theorem dX5_isCleared_42 : decode cX5_isCleared 42 = .ok (.invokestatic 107, 3) := by decide +kernel
theorem dX5_isCleared_45 : decode cX5_isCleared 45 = .ok (.istore 5, 2) := by decide +kernel
theorem dX5_isCleared_47 : decode cX5_isCleared 47 = .ok (.iload 5, 2) := by decide +kernel
theorem dX5_isCleared_49 : decode cX5_isCleared 49 = .ok (.iload_n 0, 1) := by decide +kernel
theorem dX5_isCleared_50 : decode cX5_isCleared 50 = .ok (.if_icmp .eq 21, 3) := by decide +kernel
theorem dX5_isCleared_53 : decode cX5_isCleared 53 = .ok (.iload 5, 2) := by decide +kernel
theorem dX5_isCleared_55 : decode cX5_isCleared 55 = .ok (.iload_n 1, 1) := by decide +kernel
theorem dX5_isCleared_56 : decode cX5_isCleared 56 = .ok (.iconst 1, 1) := by decide +kernel
theorem dX5_isCleared_57 : decode cX5_isCleared 57 = .ok (.iload_n 3, 1) := by decide +kernel
theorem dX5_isCleared_58 : decode cX5_isCleared 58 = .ok (.ishl, 1) := by decide +kernel
theorem dX5_isCleared_59 : decode cX5_isCleared 59 = .ok (.ior, 1) := by decide +kernel
theorem dX5_isCleared_60 : decode cX5_isCleared 60 = .ok (.iload_n 2, 1) := by decide +kernel
theorem dX5_isCleared_61 : decode cX5_isCleared 61 = .ok (.iconst 1, 1) := by decide +kernel
theorem dX5_isCleared_62 : decode cX5_isCleared 62 = .ok (.isub, 1) := by decide +kernel
theorem dX5_isCleared_63 : decode cX5_isCleared 63 = .ok (.invokestatic 165, 3) := by decide +kernel
theorem dX5_isCleared_66 : decode cX5_isCleared 66 = .ok (.ifCond .eq 5, 3) := by decide +kernel
theorem dX5_isCleared_69 : decode cX5_isCleared 69 = .ok (.iconst 1, 1) := by decide +kernel
theorem dX5_isCleared_70 : decode cX5_isCleared 70 = .ok (.ireturn, 1) := by decide +kernel
theorem dX5_isCleared_71 : decode cX5_isCleared 71 = .ok (.iinc 4 1, 3) := by decide +kernel
theorem dX5_isCleared_74 : decode cX5_isCleared 74 = .ok (.goto (-42), 3) := by decide +kernel
theorem dX5_isCleared_77 : decode cX5_isCleared 77 = .ok (.iinc 3 1, 3) := by decide +kernel
theorem dX5_isCleared_80 : decode cX5_isCleared 80 = .ok (.goto (-72), 3) := by decide +kernel
theorem dX5_isCleared_83 : decode cX5_isCleared 83 = .ok (.iconst 0, 1) := by decide +kernel
theorem dX5_isCleared_84 : decode cX5_isCleared 84 = .ok (.ireturn, 1) := by decide +kernel
set_option maxRecDepth 20000 in
theorem ggX5_clear_X5_isCleared : GoodIn wsX5_clear wsX5_isCleared := goodIn_r _ [5, 6, 7, 4, 8, 9, 10, 11, 12, 13, 14, 15, 16, 17, 18, 19, 20, 2, 3] (by decide +kernel) (by decide +kernel)
set_option maxRecDepth 20000 in
theorem gX5_clear_X5_isCleared : GoodIn wsX5_clear (va_wsS RX5 165 yX5_isCleared wsX5_isCleared) := goodIn_app (goodIn_of _ (by decide +kernel)) ggX5_clear_X5_isCleared
theorem dX5_clear_0 : decode cX5_clear 0 = .ok (.iconst 0, 1) := by decide +kernel
theorem dX5_clear_1 : decode cX5_clear 1 = .ok (.istore_n 1, 1) := by decide +kernel
theorem dX5_clear_2 : decode cX5_clear 2 = .ok (.iload_n 1, 1) := by decide +kernel
theorem dX5_clear_3 : decode cX5_clear 3 = .ok (.iconst 3, 1) := by decide +kernel
theorem dX5_clear_4 : decode cX5_clear 4 = .ok (.if_icmp .gt 23, 3) := by decide +kernel
theorem dX5_clear_7 : decode cX5_clear 7 = .ok (.aload_n 0, 1) := by decide +kernel
theorem dX5_clear_8 : decode cX5_clear 8 = .ok (.getfield 9, 3) := by decide +kernel
theorem dX5_clear_11 : decode cX5_clear 11 = .ok (.iconst 0, 1) := by decide +kernel
theorem dX5_clear_12 : decode cX5_clear 12 = .ok (.iload_n 1, 1) := by decide +kernel
theorem dX5_clear_13 : decode cX5_clear 13 = .ok (.invokestatic 165, 3) := by decide +kernel
theorem dX5_clear_16 : decode cX5_clear 16 = .ok (.ifCond .eq 5, 3) := by decide +kernel
theorem dX5_clear_19 : decode cX5_clear 19 = .ok (.iload_n 1, 1) := by decide +kernel
theorem dX5_clear_20 : decode cX5_clear 20 = .ok (.ireturn, 1) := by decide +kernel
theorem dX5_clear_21 : decode cX5_clear 21 = .ok (.iinc 1 1, 3) := by decide +kernel
theorem dX5_clear_24 : decode cX5_clear 24 = .ok (.goto (-22), 3) := by decide +kernel
theorem dX5_clear_27 : decode cX5_clear 27 = .ok (.iconst (-1), 1) := by decide +kernel
theorem dX5_clear_28 : decode cX5_clear 28 = .ok (.ireturn, 1) := by decide +kernel
set_option maxRecDepth 20000 in
theorem ggX5_throwsToClear_X5_clear : GoodIn wsX5_throwsToClear wsX5_clear := goodIn_r _ [5, 6, 7, 8, 4, 9, 10, 11, 12, 13, 14, 15, 16, 17, 18, 19, 20, 21, 22, 23, 24, 30, 31, 32, 33, 34, 35, 36, 37, 38, 39, 40, 41, 42, 43, 44] (by decide +kernel) (by decide +kernel)
set_option maxRecDepth 20000 in
theorem gX5_throwsToClear_X5_clear : GoodIn wsX5_throwsToClear (wsV RX5 168 RX5 yX5_clear wsX5_clear) := goodIn_app (goodIn_of _ (by decide +kernel)) ggX5_throwsToClear_X5_clear
set_option maxRecDepth 20000 in
theorem ggX5_throwsToClear_X5_ok : GoodIn wsX5_throwsToClear wsX5_ok := goodIn_r _ [28, 29, 30, 31, 32, 33, 34, 35, 36, 37, 38, 39, 40, 41, 42, 43, 44] (by decide +kernel) (by decide +kernel)
set_option maxRecDepth 20000 in
theorem gX5_throwsToClear_X5_ok : GoodIn wsX5_throwsToClear (wsV RX5 143 RX5 yX5_ok wsX5_ok) := goodIn_app (goodIn_of _ (by decide +kernel)) ggX5_throwsToClear_X5_ok
theorem dX5_throwsToClear_0 : decode cX5_throwsToClear 0 = .ok (.aload_n 0, 1) := by decide +kernel
theorem dX5_throwsToClear_1 : decode cX5_throwsToClear 1 = .ok (.aload_n 0, 1) := by decide +kernel
theorem dX5_throwsToClear_2 : decode cX5_throwsToClear 2 = .ok (.invokevirtual 168, 3) := by decide +kernel
theorem dX5_throwsToClear_5 : decode cX5_throwsToClear 5 = .ok (.invokevirtual 143, 3) := by decide +kernel
theorem dX5_throwsToClear_8 : decode cX5_throwsToClear 8 = .ok (.ireturn, 1) := by decide +kernel
theorem dX5_wouldBreak_0 : decode cX5_wouldBreak 0 = .ok (.aload_n 0, 1) := by decide +kernel
theorem dX5_wouldBreak_1 : decode cX5_wouldBreak 1 = .ok (.iconst 0, 1) := by decide +kernel
theorem dX5_wouldBreak_2 : decode cX5_wouldBreak 2 = .ok (.putfield 41, 3) := by decide +kernel
theorem dX5_wouldBreak_5 : decode cX5_wouldBreak 5 = .ok (.iconst 0, 1) := by decide +kernel
theorem dX5_wouldBreak_6 : decode cX5_wouldBreak 6 = .ok (.istore_n 1, 1) := by decide +kernel
theorem dX5_wouldBreak_7 : decode cX5_wouldBreak 7 = .ok (.iconst 0, 1) := by decide +kernel
theorem dX5_wouldBreak_8 : decode cX5_wouldBreak 8 = .ok (.istore_n 2, 1) := by decide +kernel
theorem dX5_wouldBreak_9 : decode cX5_wouldBreak 9 = .ok (.iload_n 2, 1) := by decide +kernel
theorem dX5_wouldBreak_10 : decode cX5_wouldBreak 10 = .ok (.bipush 9, 2) := by decide +kernel
theorem dX5_wouldBreak_12 : decode cX5_wouldBreak 12 = .ok (.if_icmp .ge 37, 3) := by decide +kernel
theorem dX5_wouldBreak_15 : decode cX5_wouldBreak 15 = .ok (.iload_n 1, 1) := by decide +kernel
theorem dX5_wouldBreak_16 : decode cX5_wouldBreak 16 = .ok (.aload_n 0, 1) := by decide +kernel
theorem dX5_wouldBreak_17 : decode cX5_wouldBreak 17 = .ok (.getfield 13, 3) := by decide +kernel
theorem dX5_wouldBreak_20 : decode cX5_wouldBreak 20 = .ok (.iload_n 2, 1) := by decide +kernel
theorem dX5_wouldBreak_21 : decode cX5_wouldBreak 21 = .ok (.iaload, 1) := by decide +kernel
theorem dX5_wouldBreak_22 : decode cX5_wouldBreak 22 = .ok (.aload_n 0, 1) := by decide +kernel
theorem dX5_wouldBreak_23 : decode cX5_wouldBreak 23 = .ok (.getfield 9, 3) := by decide +kernel
theorem dX5_wouldBreak_26 : decode cX5_wouldBreak 26 = .ok (.iload_n 2, 1) := by decide +kernel
theorem dX5_wouldBreak_27 : decode cX5_wouldBreak 27 = .ok (.ishr, 1) := by decide +kernel
theorem dX5_wouldBreak_28 : decode cX5_wouldBreak 28 = .ok (.iconst 1, 1) := by decide +kernel
theorem dX5_wouldBreak_29 : decode cX5_wouldBreak 29 = .ok (.iand, 1) := by decide +kernel
theorem dX5_wouldBreak_30 : decode cX5_wouldBreak 30 = .ok (.iadd, 1) := by decide +kernel
theorem dX5_wouldBreak_31 : decode cX5_wouldBreak 31 = .ok (.bipush 12, 2) := by decide +kernel
theorem dX5_wouldBreak_33 : decode cX5_wouldBreak 33 = .ok (.if_icmp .ne 7, 3) := by decide +kernel
theorem dX5_wouldBreak_36 : decode cX5_wouldBreak 36 = .ok (.iconst 1, 1) := by decide +kernel
theorem dX5_wouldBreak_37 : decode cX5_wouldBreak 37 = .ok (.goto 4, 3) := by decide +kernel
theorem dX5_wouldBreak_40 : decode cX5_wouldBreak 40 = .ok (.iconst 0, 1) := by decide +kernel
theorem dX5_wouldBreak_41 : decode cX5_wouldBreak 41 = .ok (.iadd, 1) := by decide +kernel
theorem dX5_wouldBreak_42 : decode cX5_wouldBreak 42 = .ok (.istore_n 1, 1) := by decide +kernel
theorem dX5_wouldBreak_43 : decode cX5_wouldBreak 43 = .ok (.iinc 2 1, 3) := by decide +kernel
theorem dX5_wouldBreak_46 : decode cX5_wouldBreak 46 = .ok (.goto (-37), 3) := by decide +kernel
theorem dX5_wouldBreak_49 : decode cX5_wouldBreak 49 = .ok (.iload_n 1, 1) := by decide +kernel
theorem dX5_wouldBreak_50 : decode cX5_wouldBreak 50 = .ok (.ireturn, 1) := by decide +kernel
set_option maxRecDepth 20000 in
theorem ggX5_meanScore_X5_score : GoodIn wsX5_meanScore wsX5_score := goodIn_r _ [7, 8, 9, 10, 6, 11, 12, 13, 14, 15, 16, 17, 18, 19, 20, 21, 22, 23, 24, 25, 26, 27, 28, 29, 30, 31, 32, 33, 34, 35, 36, 37, 38, 39, 40, 41, 42, 43, 44] (by decide +kernel) (by decide +kernel)
set_option maxRecDepth 20000 in
theorem gX5_meanScore_X5_score : GoodIn wsX5_meanScore (wsV RX5 134 RX5 yX5_score wsX5_score) := goodIn_app (goodIn_of _ (by decide +kernel)) ggX5_meanScore_X5_score
theorem dX5_meanScore_0 : decode cX5_meanScore 0 = .ok (.aload_n 0, 1) := by decide +kernel
theorem dX5_meanScore_1 : decode cX5_meanScore 1 = .ok (.iconst 0, 1) := by decide +kernel
theorem dX5_meanScore_2 : decode cX5_meanScore 2 = .ok (.putfield 41, 3) := by decide +kernel
theorem dX5_meanScore_5 : decode cX5_meanScore 5 = .ok (.iconst 0, 1) := by decide +kernel
theorem dX5_meanScore_6 : decode cX5_meanScore 6 = .ok (.istore_n 1, 1) := by decide +kernel
theorem dX5_meanScore_7 : decode cX5_meanScore 7 = .ok (.iconst 0, 1) := by decide +kernel
theorem dX5_meanScore_8 : decode cX5_meanScore 8 = .ok (.istore_n 2, 1) := by decide +kernel
theorem dX5_meanScore_9 : decode cX5_meanScore 9 = .ok (.iload_n 2, 1) := by decide +kernel
theorem dX5_meanScore_10 : decode cX5_meanScore 10 = .ok (.aload_n 0, 1) := by decide +kernel
theorem dX5_meanScore_11 : decode cX5_meanScore 11 = .ok (.getfield 48, 3) := by decide +kernel
theorem dX5_meanScore_14 : decode cX5_meanScore 14 = .ok (.if_icmp .ge 17, 3) := by decide +kernel
theorem dX5_meanScore_17 : decode cX5_meanScore 17 = .ok (.iload_n 1, 1) := by decide +kernel
theorem dX5_meanScore_18 : decode cX5_meanScore 18 = .ok (.aload_n 0, 1) := by decide +kernel
theorem dX5_meanScore_19 : decode cX5_meanScore 19 = .ok (.iload_n 2, 1) := by decide +kernel
theorem dX5_meanScore_20 : decode cX5_meanScore 20 = .ok (.invokevirtual 134, 3) := by decide +kernel
theorem dX5_meanScore_23 : decode cX5_meanScore 23 = .ok (.iadd, 1) := by decide +kernel
theorem dX5_meanScore_24 : decode cX5_meanScore 24 = .ok (.istore_n 1, 1) := by decide +kernel
theorem dX5_meanScore_25 : decode cX5_meanScore 25 = .ok (.iinc 2 1, 3) := by decide +kernel
theorem dX5_meanScore_28 : decode cX5_meanScore 28 = .ok (.goto (-19), 3) := by decide +kernel
theorem dX5_meanScore_31 : decode cX5_meanScore 31 = .ok (.aload_n 0, 1) := by decide +kernel
theorem dX5_meanScore_32 : decode cX5_meanScore 32 = .ok (.getfield 48, 3) := by decide +kernel
theorem dX5_meanScore_35 : decode cX5_meanScore 35 = .ok (.ifCond .ne 7, 3) := by decide +kernel
theorem dX5_meanScore_38 : decode cX5_meanScore 38 = .ok (.dconst 0, 1) := by decide +kernel
theorem dX5_meanScore_39 : decode cX5_meanScore 39 = .ok (.goto 11, 3) := by decide +kernel
theorem dX5_meanScore_42 : decode cX5_meanScore 42 = .ok (.iload_n 1, 1) := by decide +kernel
theorem dX5_meanScore_43 : decode cX5_meanScore 43 = .ok (.i2d, 1) := by decide +kernel
theorem dX5_meanScore_44 : decode cX5_meanScore 44 = .ok (.aload_n 0, 1) := by decide +kernel
theorem dX5_meanScore_45 : decode cX5_meanScore 45 = .ok (.getfield 48, 3) := by decide +kernel
theorem dX5_meanScore_48 : decode cX5_meanScore 48 = .ok (.i2d, 1) := by decide +kernel
theorem dX5_meanScore_49 : decode cX5_meanScore 49 = .ok (.ddiv, 1) := by decide +kernel
theorem dX5_meanScore_50 : decode cX5_meanScore 50 = .ok (.dreturn, 1) := by decide +kernel
set_option maxRecDepth 20000 in
theorem ggX5_digest_X5_turnNow : GoodIn wsX5_digest wsX5_turnNow := goodIn_r _ [19, 3, 20, 21, 22, 23, 18, 24, 4, 81, 82, 83, 84, 85, 86, 87, 88, 89, 90, 91, 92, 93, 94, 95] (by decide +kernel) (by decide +kernel)
set_option maxRecDepth 20000 in
theorem gX5_digest_X5_turnNow : GoodIn wsX5_digest (wsV RX5 149 RX5 yX5_turnNow wsX5_turnNow) := goodIn_app (goodIn_of _ (by decide +kernel)) ggX5_digest_X5_turnNow
set_option maxRecDepth 20000 in
theorem ggX5_digest_X5_best : GoodIn wsX5_digest wsX5_best := goodIn_r _ [28, 11, 9, 29, 30, 18, 31, 32, 33, 34, 35, 36, 37, 38, 39, 40, 41, 42, 43, 44, 45, 46, 47, 48, 49, 50, 81, 82, 83, 84, 85, 86, 87, 88, 89, 90, 91, 92, 93, 94, 95] (by decide +kernel) (by decide +kernel)
set_option maxRecDepth 20000 in
theorem gX5_digest_X5_best : GoodIn wsX5_digest (wsV RX5 162 RX5 yX5_best wsX5_best) := goodIn_app (goodIn_of _ (by decide +kernel)) ggX5_digest_X5_best
set_option maxRecDepth 20000 in
theorem ggX5_digest_X5_clear : GoodIn wsX5_digest wsX5_clear := goodIn_r _ [54, 9, 55, 56, 18, 57, 29, 30, 31, 32, 33, 34, 35, 36, 37, 38, 39, 40, 41, 42, 43, 81, 82, 83, 84, 85, 86, 87, 88, 89, 90, 91, 92, 93, 94, 95] (by decide +kernel) (by decide +kernel)
set_option maxRecDepth 20000 in
theorem gX5_digest_X5_clear : GoodIn wsX5_digest (wsV RX5 168 RX5 yX5_clear wsX5_clear) := goodIn_app (goodIn_of _ (by decide +kernel)) ggX5_digest_X5_clear
set_option maxRecDepth 20000 in
theorem ggX5_digest_X5_score : GoodIn wsX5_digest wsX5_score := goodIn_r _ [61, 62, 63, 64, 18, 65, 4, 20, 12, 66, 67, 68, 69, 70, 71, 72, 73, 74, 75, 76, 77, 78, 79, 80, 81, 82, 83, 84, 85, 86, 87, 88, 89, 90, 91, 92, 93, 94, 95] (by decide +kernel) (by decide +kernel)
set_option maxRecDepth 20000 in
theorem gX5_digest_X5_score : GoodIn wsX5_digest (wsV RX5 134 RX5 yX5_score wsX5_score) := goodIn_app (goodIn_of _ (by decide +kernel)) ggX5_digest_X5_score
set_option maxRecDepth 20000 in
theorem ggX5_digest_X5_points : GoodIn wsX5_digest wsX5_points := goodIn_r _ [65, 4, 20, 12, 66, 67, 68, 69, 18, 70, 71, 72, 73, 74, 75, 76, 77, 78, 79, 80, 81, 82, 83, 84, 85, 86, 87, 88, 89, 90, 91, 92, 93, 94, 95] (by decide +kernel) (by decide +kernel)
set_option maxRecDepth 20000 in
theorem gX5_digest_X5_points : GoodIn wsX5_digest (wsV RX5 131 RX5 yX5_points wsX5_points) := goodIn_app (goodIn_of _ (by decide +kernel)) ggX5_digest_X5_points
theorem dX5_digest_0 : decode cX5_digest 0 = .ok (.aload_n 0, 1) := by decide +kernel
theorem dX5_digest_1 : decode cX5_digest 1 = .ok (.iconst 0, 1) := by decide +kernel
theorem dX5_digest_2 : decode cX5_digest 2 = .ok (.putfield 41, 3) := by decide +kernel
theorem dX5_digest_5 : decode cX5_digest 5 = .ok (.bipush 7, 2) := by decide +kernel
theorem dX5_digest_7 : decode cX5_digest 7 = .ok (.newarray .int, 2) := by decide +kernel
theorem dX5_digest_9 : decode cX5_digest 9 = .ok (.dup, 1) := by decide +kernel
theorem dX5_digest_10 : decode cX5_digest 10 = .ok (.iconst 0, 1) := by decide +kernel
theorem dX5_digest_11 : decode cX5_digest 11 = .ok (.aload_n 0, 1) := by decide +kernel
theorem dX5_digest_12 : decode cX5_digest 12 = .ok (.getfield 48, 3) := by decide +kernel
theorem dX5_digest_15 : decode cX5_digest 15 = .ok (.iastore, 1) := by decide +kernel
theorem dX5_digest_16 : decode cX5_digest 16 = .ok (.dup, 1) := by decide +kernel
theorem dX5_digest_17 : decode cX5_digest 17 = .ok (.iconst 1, 1) := by decide +kernel
theorem dX5_digest_18 : decode cX5_digest 18 = .ok (.aload_n 0, 1) := by decide +kernel
theorem dX5_digest_19 : decode cX5_digest 19 = .ok (.invokevirtual 149, 3) := by decide +kernel
theorem dX5_digest_22 : decode cX5_digest 22 = .ok (.iastore, 1) := by decide +kernel
theorem dX5_digest_23 : decode cX5_digest 23 = .ok (.dup, 1) := by decide +kernel
theorem dX5_digest_24 : decode cX5_digest 24 = .ok (.iconst 2, 1) := by decide +kernel
theorem dX5_digest_25 : decode cX5_digest 25 = .ok (.aload_n 0, 1) := by decide +kernel
theorem dX5_digest_26 : decode cX5_digest 26 = .ok (.getfield 72, 3) := by decide +kernel
theorem dX5_digest_29 : decode cX5_digest 29 = .ok (.iastore, 1) := by decide +kernel
theorem dX5_digest_30 : decode cX5_digest 30 = .ok (.dup, 1) := by decide +kernel
theorem dX5_digest_31 : decode cX5_digest 31 = .ok (.iconst 3, 1) := by decide +kernel
theorem dX5_digest_32 : decode cX5_digest 32 = .ok (.aload_n 0, 1) := by decide +kernel
theorem dX5_digest_33 : decode cX5_digest 33 = .ok (.getfield 97, 3) := by decide +kernel
theorem dX5_digest_36 : decode cX5_digest 36 = .ok (.iastore, 1) := by decide +kernel
theorem dX5_digest_37 : decode cX5_digest 37 = .ok (.dup, 1) := by decide +kernel
theorem dX5_digest_38 : decode cX5_digest 38 = .ok (.iconst 4, 1) := by decide +kernel
theorem dX5_digest_39 : decode cX5_digest 39 = .ok (.aload_n 0, 1) := by decide +kernel
theorem dX5_digest_40 : decode cX5_digest 40 = .ok (.getfield 20, 3) := by decide +kernel
theorem dX5_digest_43 : decode cX5_digest 43 = .ok (.iastore, 1) := by decide +kernel
theorem dX5_digest_44 : decode cX5_digest 44 = .ok (.dup, 1) := by decide +kernel
theorem dX5_digest_45 : decode cX5_digest 45 = .ok (.iconst 5, 1) := by decide +kernel
theorem dX5_digest_46 : decode cX5_digest 46 = .ok (.aload_n 0, 1) := by decide +kernel
theorem dX5_digest_47 : decode cX5_digest 47 = .ok (.invokevirtual 162, 3) := by decide +kernel
theorem dX5_digest_50 : decode cX5_digest 50 = .ok (.iastore, 1) := by decide +kernel
theorem dX5_digest_51 : decode cX5_digest 51 = .ok (.dup, 1) := by decide +kernel
theorem dX5_digest_52 : decode cX5_digest 52 = .ok (.bipush 6, 2) := by decide +kernel
theorem dX5_digest_54 : decode cX5_digest 54 = .ok (.aload_n 0, 1) := by decide +kernel
theorem dX5_digest_55 : decode cX5_digest 55 = .ok (.invokevirtual 168, 3) := by decide +kernel
theorem dX5_digest_58 : decode cX5_digest 58 = .ok (.iastore, 1) := by decide +kernel
theorem dX5_digest_59 : decode cX5_digest 59 = .ok (.astore_n 1, 1) := by decide +kernel
theorem dX5_digest_60 : decode cX5_digest 60 = .ok (.ldc2_w 171, 3) := by decide +kernel
theorem dX5_digest_63 : decode cX5_digest 63 = .ok (.lstore_n 2, 1) := by decide +kernel
theorem dX5_digest_64 : decode cX5_digest 64 = .ok (.aload_n 1, 1) := by decide +kernel
theorem dX5_digest_65 : decode cX5_digest 65 = .ok (.astore 4, 2) := by decide +kernel
theorem dX5_digest_67 : decode cX5_digest 67 = .ok (.aload 4, 2) := by decide +kernel
theorem dX5_digest_69 : decode cX5_digest 69 = .ok (.arraylength, 1) := by decide +kernel
theorem dX5_digest_70 : decode cX5_digest 70 = .ok (.istore 5, 2) := by decide +kernel
theorem dX5_digest_72 : decode cX5_digest 72 = .ok (.iconst 0, 1) := by decide +kernel
theorem dX5_digest_73 : decode cX5_digest 73 = .ok (.istore 6, 2) := by decide +kernel
theorem dX5_digest_75 : decode cX5_digest 75 = .ok (.iload 6, 2) := by decide +kernel
theorem dX5_digest_77 : decode cX5_digest 77 = .ok (.iload 5, 2) := by decide +kernel
theorem dX5_digest_79 : decode cX5_digest 79 = .ok (.if_icmp .ge 26, 3) := by decide +kernel
theorem dX5_digest_82 : decode cX5_digest 82 = .ok (.aload 4, 2) := by decide +kernel
theorem dX5_digest_84 : decode cX5_digest 84 = .ok (.iload 6, 2) := by decide +kernel
theorem dX5_digest_86 : decode cX5_digest 86 = .ok (.iaload, 1) := by decide +kernel
theorem dX5_digest_87 : decode cX5_digest 87 = .ok (.istore 7, 2) := by decide +kernel
theorem dX5_digest_89 : decode cX5_digest 89 = .ok (.lload_n 2, 1) := by decide +kernel
theorem dX5_digest_90 : decode cX5_digest 90 = .ok (.ldc2_w 173, 3) := by decide +kernel
theorem dX5_digest_93 : decode cX5_digest 93 = .ok (.lmul, 1) := by decide +kernel
theorem dX5_digest_94 : decode cX5_digest 94 = .ok (.iload 7, 2) := by decide +kernel
theorem dX5_digest_96 : decode cX5_digest 96 = .ok (.i2l, 1) := by decide +kernel
theorem dX5_digest_97 : decode cX5_digest 97 = .ok (.ladd, 1) := by decide +kernel
theorem dX5_digest_98 : decode cX5_digest 98 = .ok (.lstore_n 2, 1) := by decide +kernel
theorem dX5_digest_99 : decode cX5_digest 99 = .ok (.iinc 6 1, 3) := by decide +kernel
theorem dX5_digest_102 : decode cX5_digest 102 = .ok (.goto (-27), 3) := by decide +kernel
theorem dX5_digest_105 : decode cX5_digest 105 = .ok (.iconst 0, 1) := by decide +kernel
theorem dX5_digest_106 : decode cX5_digest 106 = .ok (.istore 4, 2) := by decide +kernel
theorem dX5_digest_108 : decode cX5_digest 108 = .ok (.iload 4, 2) := by decide +kernel
theorem dX5_digest_110 : decode cX5_digest 110 = .ok (.bipush 9, 2) := by decide +kernel
theorem dX5_digest_112 : decode cX5_digest 112 = .ok (.if_icmp .ge 39, 3) := by decide +kernel
theorem dX5_digest_115 : decode cX5_digest 115 = .ok (.lload_n 2, 1) := by decide +kernel
theorem dX5_digest_116 : decode cX5_digest 116 = .ok (.ldc2_w 173, 3) := by decide +kernel
theorem dX5_digest_119 : decode cX5_digest 119 = .ok (.lmul, 1) := by decide +kernel
theorem dX5_digest_120 : decode cX5_digest 120 = .ok (.aload_n 0, 1) := by decide +kernel
theorem dX5_digest_121 : decode cX5_digest 121 = .ok (.getfield 9, 3) := by decide +kernel
theorem dX5_digest_124 : decode cX5_digest 124 = .ok (.iload 4, 2) := by decide +kernel
theorem dX5_digest_126 : decode cX5_digest 126 = .ok (.ishr, 1) := by decide +kernel
theorem dX5_digest_127 : decode cX5_digest 127 = .ok (.iconst 1, 1) := by decide +kernel
theorem dX5_digest_128 : decode cX5_digest 128 = .ok (.iand, 1) := by decide +kernel
theorem dX5_digest_129 : decode cX5_digest 129 = .ok (.i2l, 1) := by decide +kernel
theorem dX5_digest_130 : decode cX5_digest 130 = .ok (.ladd, 1) := by decide +kernel
theorem dX5_digest_131 : decode cX5_digest 131 = .ok (.ldc2_w 173, 3) := by decide +kernel
theorem dX5_digest_134 : decode cX5_digest 134 = .ok (.lmul, 1) := by decide +kernel
theorem dX5_digest_135 : decode cX5_digest 135 = .ok (.aload_n 0, 1) := by decide +kernel
theorem dX5_digest_136 : decode cX5_digest 136 = .ok (.getfield 13, 3) := by decide +kernel
theorem dX5_digest_139 : decode cX5_digest 139 = .ok (.iload 4, 2) := by decide +kernel
theorem dX5_digest_141 : decode cX5_digest 141 = .ok (.iaload, 1) := by decide +kernel
theorem dX5_digest_142 : decode cX5_digest 142 = .ok (.i2l, 1) := by decide +kernel
theorem dX5_digest_143 : decode cX5_digest 143 = .ok (.ladd, 1) := by decide +kernel
theorem dX5_digest_144 : decode cX5_digest 144 = .ok (.lstore_n 2, 1) := by decide +kernel
theorem dX5_digest_145 : decode cX5_digest 145 = .ok (.iinc 4 1, 3) := by decide +kernel
theorem dX5_digest_148 : decode cX5_digest 148 = .ok (.goto (-40), 3) := by decide +kernel
theorem dX5_digest_151 : decode cX5_digest 151 = .ok (.iconst 0, 1) := by decide +kernel
theorem dX5_digest_152 : decode cX5_digest 152 = .ok (.istore 4, 2) := by decide +kernel
theorem dX5_digest_154 : decode cX5_digest 154 = .ok (.iload 4, 2) := by decide +kernel
theorem dX5_digest_156 : decode cX5_digest 156 = .ok (.iconst 5, 1) := by decide +kernel
theorem dX5_digest_157 : decode cX5_digest 157 = .ok (.if_icmp .ge 24, 3) := by decide +kernel
theorem dX5_digest_160 : decode cX5_digest 160 = .ok (.lload_n 2, 1) := by decide +kernel
theorem dX5_digest_161 : decode cX5_digest 161 = .ok (.ldc2_w 173, 3) := by decide +kernel
theorem dX5_digest_164 : decode cX5_digest 164 = .ok (.lmul, 1) := by decide +kernel
theorem dX5_digest_165 : decode cX5_digest 165 = .ok (.aload_n 0, 1) := by decide +kernel
theorem dX5_digest_166 : decode cX5_digest 166 = .ok (.getfield 17, 3) := by decide +kernel
theorem dX5_digest_169 : decode cX5_digest 169 = .ok (.iload 4, 2) := by decide +kernel
theorem dX5_digest_171 : decode cX5_digest 171 = .ok (.iaload, 1) := by decide +kernel
theorem dX5_digest_172 : decode cX5_digest 172 = .ok (.i2l, 1) := by decide +kernel
theorem dX5_digest_173 : decode cX5_digest 173 = .ok (.ladd, 1) := by decide +kernel
theorem dX5_digest_174 : decode cX5_digest 174 = .ok (.lstore_n 2, 1) := by decide +kernel
theorem dX5_digest_175 : decode cX5_digest 175 = .ok (.iinc 4 1, 3) := by decide +kernel
theorem dX5_digest_178 : decode cX5_digest 178 = .ok (.goto (-24), 3) := by decide +kernel
theorem dX5_digest_181 : decode cX5_digest 181 = .ok (.iconst 0, 1) := by decide +kernel
theorem dX5_digest_182 : decode cX5_digest 182 = .ok (.istore 4, 2) := by decide +kernel
theorem dX5_digest_184 : decode cX5_digest 184 = .ok (.iload 4, 2) := by decide +kernel
theorem dX5_digest_186 : decode cX5_digest 186 = .ok (.aload_n 0, 1) := by decide +kernel
theorem dX5_digest_187 : decode cX5_digest 187 = .ok (.getfield 48, 3) := by decide +kernel
theorem dX5_digest_190 : decode cX5_digest 190 = .ok (.if_icmp .ge 94, 3) := by decide +kernel
theorem dX5_digest_193 : decode cX5_digest 193 = .ok (.lload_n 2, 1) := by decide +kernel
theorem dX5_digest_194 : decode cX5_digest 194 = .ok (.ldc2_w 173, 3) := by decide +kernel
theorem dX5_digest_197 : decode cX5_digest 197 = .ok (.lmul, 1) := by decide +kernel
theorem dX5_digest_198 : decode cX5_digest 198 = .ok (.aload_n 0, 1) := by decide +kernel
theorem dX5_digest_199 : decode cX5_digest 199 = .ok (.getfield 23, 3) := by decide +kernel
theorem dX5_digest_202 : decode cX5_digest 202 = .ok (.iload 4, 2) := by decide +kernel
theorem dX5_digest_204 : decode cX5_digest 204 = .ok (.iaload, 1) := by decide +kernel
theorem dX5_digest_205 : decode cX5_digest 205 = .ok (.i2l, 1) := by decide +kernel
theorem dX5_digest_206 : decode cX5_digest 206 = .ok (.ladd, 1) := by decide +kernel
theorem dX5_digest_207 : decode cX5_digest 207 = .ok (.ldc2_w 173, 3) := by decide +kernel
theorem dX5_digest_210 : decode cX5_digest 210 = .ok (.lmul, 1) := by decide +kernel
theorem dX5_digest_211 : decode cX5_digest 211 = .ok (.aload_n 0, 1) := by decide +kernel
theorem dX5_digest_212 : decode cX5_digest 212 = .ok (.iload 4, 2) := by decide +kernel
theorem dX5_digest_214 : decode cX5_digest 214 = .ok (.invokevirtual 134, 3) := by decide +kernel
theorem dX5_digest_217 : decode cX5_digest 217 = .ok (.i2l, 1) := by decide +kernel
theorem dX5_digest_218 : decode cX5_digest 218 = .ok (.ladd, 1) := by decide +kernel
theorem dX5_digest_219 : decode cX5_digest 219 = .ok (.ldc2_w 173, 3) := by decide +kernel
theorem dX5_digest_222 : decode cX5_digest 222 = .ok (.lmul, 1) := by decide +kernel
theorem dX5_digest_223 : decode cX5_digest 223 = .ok (.aload_n 0, 1) := by decide +kernel
theorem dX5_digest_224 : decode cX5_digest 224 = .ok (.getfield 32, 3) := by decide +kernel
theorem dX5_digest_227 : decode cX5_digest 227 = .ok (.iload 4, 2) := by decide +kernel
theorem dX5_digest_229 : decode cX5_digest 229 = .ok (.iaload, 1) := by decide +kernel
theorem dX5_digest_230 : decode cX5_digest 230 = .ok (.i2l, 1) := by decide +kernel
theorem dX5_digest_231 : decode cX5_digest 231 = .ok (.ladd, 1) := by decide +kernel
theorem dX5_digest_232 : decode cX5_digest 232 = .ok (.ldc2_w 173, 3) := by decide +kernel
theorem dX5_digest_235 : decode cX5_digest 235 = .ok (.lmul, 1) := by decide +kernel
theorem dX5_digest_236 : decode cX5_digest 236 = .ok (.aload_n 0, 1) := by decide +kernel
theorem dX5_digest_237 : decode cX5_digest 237 = .ok (.getfield 35, 3) := by decide +kernel
theorem dX5_digest_240 : decode cX5_digest 240 = .ok (.iload 4, 2) := by decide +kernel
theorem dX5_digest_242 : decode cX5_digest 242 = .ok (.iaload, 1) := by decide +kernel
theorem dX5_digest_243 : decode cX5_digest 243 = .ok (.i2l, 1) := by decide +kernel
theorem dX5_digest_244 : decode cX5_digest 244 = .ok (.ladd, 1) := by decide +kernel
theorem dX5_digest_245 : decode cX5_digest 245 = .ok (.lstore_n 2, 1) := by decide +kernel
theorem dX5_digest_246 : decode cX5_digest 246 = .ok (.iconst 0, 1) := by decide +kernel
theorem dX5_digest_247 : decode cX5_digest 247 = .ok (.istore 5, 2) := by decide +kernel
theorem dX5_digest_249 : decode cX5_digest 249 = .ok (.iload 5, 2) := by decide +kernel
theorem dX5_digest_251 : decode cX5_digest 251 = .ok (.bipush 10, 2) := by decide +kernel
theorem dX5_digest_253 : decode cX5_digest 253 = .ok (.if_icmp .ge 25, 3) := by decide +kernel
theorem dX5_digest_256 : decode cX5_digest 256 = .ok (.lload_n 2, 1) := by decide +kernel
theorem dX5_digest_257 : decode cX5_digest 257 = .ok (.ldc2_w 173, 3) := by decide +kernel
theorem dX5_digest_260 : decode cX5_digest 260 = .ok (.lmul, 1) := by decide +kernel
theorem dX5_digest_261 : decode cX5_digest 261 = .ok (.aload_n 0, 1) := by decide +kernel
theorem dX5_digest_262 : decode cX5_digest 262 = .ok (.iload 4, 2) := by decide +kernel
theorem dX5_digest_264 : decode cX5_digest 264 = .ok (.iload 5, 2) := by decide +kernel
theorem dX5_digest_266 : decode cX5_digest 266 = .ok (.invokevirtual 131, 3) := by decide +kernel
theorem dX5_digest_269 : decode cX5_digest 269 = .ok (.i2l, 1) := by decide +kernel
theorem dX5_digest_270 : decode cX5_digest 270 = .ok (.ladd, 1) := by decide +kernel
theorem dX5_digest_271 : decode cX5_digest 271 = .ok (.lstore_n 2, 1) := by decide +kernel
theorem dX5_digest_272 : decode cX5_digest 272 = .ok (.iinc 5 1, 3) := by decide +kernel
theorem dX5_digest_275 : decode cX5_digest 275 = .ok (.goto (-26), 3) := by decide +kernel
theorem dX5_digest_278 : decode cX5_digest 278 = .ok (.iinc 4 1, 3) := by decide +kernel
theorem dX5_digest_281 : decode cX5_digest 281 = .ok (.goto (-97), 3) := by decide +kernel
theorem dX5_digest_284 : decode cX5_digest 284 = .ok (.lload_n 2, 1) := by decide +kernel
theorem dX5_digest_285 : decode cX5_digest 285 = .ok (.lreturn, 1) := by decide +kernel
theorem dJ6_numberOfLeadingZeros_0f7a4_0 : decode cJ6_numberOfLeadingZeros_0f7a4 0 = .ok (.iload_n 0, 1) := by decide +kernel
theorem dJ6_numberOfLeadingZeros_0f7a4_1 : decode cJ6_numberOfLeadingZeros_0f7a4 1 = .ok (.ifCond .gt 14, 3) := by decide +kernel
theorem dJ6_numberOfLeadingZeros_0f7a4_4 : decode cJ6_numberOfLeadingZeros_0f7a4 4 = .ok (.iload_n 0, 1) := by decide +kernel
theorem dJ6_numberOfLeadingZeros_0f7a4_5 : decode cJ6_numberOfLeadingZeros_0f7a4 5 = .ok (.ifCond .ne 8, 3) := by decide +kernel
theorem dJ6_numberOfLeadingZeros_0f7a4_8 : decode cJ6_numberOfLeadingZeros_0f7a4 8 = .ok (.bipush 32, 2) := by decide +kernel
theorem dJ6_numberOfLeadingZeros_0f7a4_10 : decode cJ6_numberOfLeadingZeros_0f7a4 10 = .ok (.goto 4, 3) := by decide +kernel
theorem dJ6_numberOfLeadingZeros_0f7a4_13 : decode cJ6_numberOfLeadingZeros_0f7a4 13 = .ok (.iconst 0, 1) := by decide +kernel
theorem dJ6_numberOfLeadingZeros_0f7a4_14 : decode cJ6_numberOfLeadingZeros_0f7a4 14 = .ok (.ireturn, 1) := by decide +kernel
theorem dJ6_numberOfLeadingZeros_0f7a4_15 : decode cJ6_numberOfLeadingZeros_0f7a4 15 = .ok (.bipush 31, 2) := by decide +kernel
theorem dJ6_numberOfLeadingZeros_0f7a4_17 : decode cJ6_numberOfLeadingZeros_0f7a4 17 = .ok (.istore_n 1, 1) := by decide +kernel
theorem dJ6_numberOfLeadingZeros_0f7a4_18 : decode cJ6_numberOfLeadingZeros_0f7a4 18 = .ok (.iload_n 0, 1) := by decide +kernel
theorem dJ6_numberOfLeadingZeros_0f7a4_19 : decode cJ6_numberOfLeadingZeros_0f7a4 19 = .ok (.ldc_w 264, 3) := by decide +kernel
theorem dJ6_numberOfLeadingZeros_0f7a4_22 : decode cJ6_numberOfLeadingZeros_0f7a4 22 = .ok (.if_icmp .lt 11, 3) := by decide +kernel
theorem dJ6_numberOfLeadingZeros_0f7a4_25 : decode cJ6_numberOfLeadingZeros_0f7a4 25 = .ok (.iinc 1 (-16), 3) := by decide +kernel
theorem dJ6_numberOfLeadingZeros_0f7a4_28 : decode cJ6_numberOfLeadingZeros_0f7a4 28 = .ok (.iload_n 0, 1) := by decide +kernel
theorem dJ6_numberOfLeadingZeros_0f7a4_29 : decode cJ6_numberOfLeadingZeros_0f7a4 29 = .ok (.bipush 16, 2) := by decide +kernel
theorem dJ6_numberOfLeadingZeros_0f7a4_31 : decode cJ6_numberOfLeadingZeros_0f7a4 31 = .ok (.iushr, 1) := by decide +kernel
theorem dJ6_numberOfLeadingZeros_0f7a4_32 : decode cJ6_numberOfLeadingZeros_0f7a4 32 = .ok (.istore_n 0, 1) := by decide +kernel
theorem dJ6_numberOfLeadingZeros_0f7a4_33 : decode cJ6_numberOfLeadingZeros_0f7a4 33 = .ok (.iload_n 0, 1) := by decide +kernel
theorem dJ6_numberOfLeadingZeros_0f7a4_34 : decode cJ6_numberOfLeadingZeros_0f7a4 34 = .ok (.sipush 256, 3) := by decide +kernel
theorem dJ6_numberOfLeadingZeros_0f7a4_37 : decode cJ6_numberOfLeadingZeros_0f7a4 37 = .ok (.if_icmp .lt 11, 3) := by decide +kernel
theorem dJ6_numberOfLeadingZeros_0f7a4_40 : decode cJ6_numberOfLeadingZeros_0f7a4 40 = .ok (.iinc 1 (-8), 3) := by decide +kernel
theorem dJ6_numberOfLeadingZeros_0f7a4_43 : decode cJ6_numberOfLeadingZeros_0f7a4 43 = .ok (.iload_n 0, 1) := by decide +kernel
theorem dJ6_numberOfLeadingZeros_0f7a4_44 : decode cJ6_numberOfLeadingZeros_0f7a4 44 = .ok (.bipush 8, 2) := by decide +kernel
theorem dJ6_numberOfLeadingZeros_0f7a4_46 : decode cJ6_numberOfLeadingZeros_0f7a4 46 = .ok (.iushr, 1) := by decide +kernel
theorem dJ6_numberOfLeadingZeros_0f7a4_47 : decode cJ6_numberOfLeadingZeros_0f7a4 47 = .ok (.istore_n 0, 1) := by decide +kernel
theorem dJ6_numberOfLeadingZeros_0f7a4_48 : decode cJ6_numberOfLeadingZeros_0f7a4 48 = .ok (.iload_n 0, 1) := by decide +kernel
theorem dJ6_numberOfLeadingZeros_0f7a4_49 : decode cJ6_numberOfLeadingZeros_0f7a4 49 = .ok (.bipush 16, 2) := by decide +kernel
theorem dJ6_numberOfLeadingZeros_0f7a4_51 : decode cJ6_numberOfLeadingZeros_0f7a4 51 = .ok (.if_icmp .lt 10, 3) := by decide +kernel
theorem dJ6_numberOfLeadingZeros_0f7a4_54 : decode cJ6_numberOfLeadingZeros_0f7a4 54 = .ok (.iinc 1 (-4), 3) := by decide +kernel
theorem dJ6_numberOfLeadingZeros_0f7a4_57 : decode cJ6_numberOfLeadingZeros_0f7a4 57 = .ok (.iload_n 0, 1) := by decide +kernel
theorem dJ6_numberOfLeadingZeros_0f7a4_58 : decode cJ6_numberOfLeadingZeros_0f7a4 58 = .ok (.iconst 4, 1) := by decide +kernel
theorem dJ6_numberOfLeadingZeros_0f7a4_59 : decode cJ6_numberOfLeadingZeros_0f7a4 59 = .ok (.iushr, 1) := by decide +kernel
theorem dJ6_numberOfLeadingZeros_0f7a4_60 : decode cJ6_numberOfLeadingZeros_0f7a4 60 = .ok (.istore_n 0, 1) := by decide +kernel
theorem dJ6_numberOfLeadingZeros_0f7a4_61 : decode cJ6_numberOfLeadingZeros_0f7a4 61 = .ok (.iload_n 0, 1) := by decide +kernel
theorem dJ6_numberOfLeadingZeros_0f7a4_62 : decode cJ6_numberOfLeadingZeros_0f7a4 62 = .ok (.iconst 4, 1) := by decide +kernel
theorem dJ6_numberOfLeadingZeros_0f7a4_63 : decode cJ6_numberOfLeadingZeros_0f7a4 63 = .ok (.if_icmp .lt 10, 3) := by decide +kernel
theorem dJ6_numberOfLeadingZeros_0f7a4_66 : decode cJ6_numberOfLeadingZeros_0f7a4 66 = .ok (.iinc 1 (-2), 3) := by decide +kernel
theorem dJ6_numberOfLeadingZeros_0f7a4_69 : decode cJ6_numberOfLeadingZeros_0f7a4 69 = .ok (.iload_n 0, 1) := by decide +kernel
theorem dJ6_numberOfLeadingZeros_0f7a4_70 : decode cJ6_numberOfLeadingZeros_0f7a4 70 = .ok (.iconst 2, 1) := by decide +kernel
theorem dJ6_numberOfLeadingZeros_0f7a4_71 : decode cJ6_numberOfLeadingZeros_0f7a4 71 = .ok (.iushr, 1) := by decide +kernel
theorem dJ6_numberOfLeadingZeros_0f7a4_72 : decode cJ6_numberOfLeadingZeros_0f7a4 72 = .ok (.istore_n 0, 1) := by decide +kernel
theorem dJ6_numberOfLeadingZeros_0f7a4_73 : decode cJ6_numberOfLeadingZeros_0f7a4 73 = .ok (.iload_n 1, 1) := by decide +kernel
theorem dJ6_numberOfLeadingZeros_0f7a4_74 : decode cJ6_numberOfLeadingZeros_0f7a4 74 = .ok (.iload_n 0, 1) := by decide +kernel
theorem dJ6_numberOfLeadingZeros_0f7a4_75 : decode cJ6_numberOfLeadingZeros_0f7a4 75 = .ok (.iconst 1, 1) := by decide +kernel
theorem dJ6_numberOfLeadingZeros_0f7a4_76 : decode cJ6_numberOfLeadingZeros_0f7a4 76 = .ok (.iushr, 1) := by decide +kernel
theorem dJ6_numberOfLeadingZeros_0f7a4_77 : decode cJ6_numberOfLeadingZeros_0f7a4 77 = .ok (.isub, 1) := by decide +kernel
theorem dJ6_numberOfLeadingZeros_0f7a4_78 : decode cJ6_numberOfLeadingZeros_0f7a4 78 = .ok (.ireturn, 1) := by decide +kernel
theorem dJ6_bitCount_0f7a4_0 : decode cJ6_bitCount_0f7a4 0 = .ok (.iload_n 0, 1) := by decide +kernel
theorem dJ6_bitCount_0f7a4_1 : decode cJ6_bitCount_0f7a4 1 = .ok (.iload_n 0, 1) := by decide +kernel
theorem dJ6_bitCount_0f7a4_2 : decode cJ6_bitCount_0f7a4 2 = .ok (.iconst 1, 1) := by decide +kernel
theorem dJ6_bitCount_0f7a4_3 : decode cJ6_bitCount_0f7a4 3 = .ok (.iushr, 1) := by decide +kernel
theorem dJ6_bitCount_0f7a4_4 : decode cJ6_bitCount_0f7a4 4 = .ok (.ldc_w 265, 3) := by decide +kernel
theorem dJ6_bitCount_0f7a4_7 : decode cJ6_bitCount_0f7a4 7 = .ok (.iand, 1) := by decide +kernel
theorem dJ6_bitCount_0f7a4_8 : decode cJ6_bitCount_0f7a4 8 = .ok (.isub, 1) := by decide +kernel
theorem dJ6_bitCount_0f7a4_9 : decode cJ6_bitCount_0f7a4 9 = .ok (.istore_n 0, 1) := by decide +kernel
theorem dJ6_bitCount_0f7a4_10 : decode cJ6_bitCount_0f7a4 10 = .ok (.iload_n 0, 1) := by decide +kernel
theorem dJ6_bitCount_0f7a4_11 : decode cJ6_bitCount_0f7a4 11 = .ok (.ldc_w 266, 3) := by decide +kernel
theorem dJ6_bitCount_0f7a4_14 : decode cJ6_bitCount_0f7a4 14 = .ok (.iand, 1) := by decide +kernel
theorem dJ6_bitCount_0f7a4_15 : decode cJ6_bitCount_0f7a4 15 = .ok (.iload_n 0, 1) := by decide +kernel
theorem dJ6_bitCount_0f7a4_16 : decode cJ6_bitCount_0f7a4 16 = .ok (.iconst 2, 1) := by decide +kernel
theorem dJ6_bitCount_0f7a4_17 : decode cJ6_bitCount_0f7a4 17 = .ok (.iushr, 1) := by decide +kernel
theorem dJ6_bitCount_0f7a4_18 : decode cJ6_bitCount_0f7a4 18 = .ok (.ldc_w 266, 3) := by decide +kernel
theorem dJ6_bitCount_0f7a4_21 : decode cJ6_bitCount_0f7a4 21 = .ok (.iand, 1) := by decide +kernel
theorem dJ6_bitCount_0f7a4_22 : decode cJ6_bitCount_0f7a4 22 = .ok (.iadd, 1) := by decide +kernel
theorem dJ6_bitCount_0f7a4_23 : decode cJ6_bitCount_0f7a4 23 = .ok (.istore_n 0, 1) := by decide +kernel
theorem dJ6_bitCount_0f7a4_24 : decode cJ6_bitCount_0f7a4 24 = .ok (.iload_n 0, 1) := by decide +kernel
theorem dJ6_bitCount_0f7a4_25 : decode cJ6_bitCount_0f7a4 25 = .ok (.iload_n 0, 1) := by decide +kernel
theorem dJ6_bitCount_0f7a4_26 : decode cJ6_bitCount_0f7a4 26 = .ok (.iconst 4, 1) := by decide +kernel
theorem dJ6_bitCount_0f7a4_27 : decode cJ6_bitCount_0f7a4 27 = .ok (.iushr, 1) := by decide +kernel
theorem dJ6_bitCount_0f7a4_28 : decode cJ6_bitCount_0f7a4 28 = .ok (.iadd, 1) := by decide +kernel
theorem dJ6_bitCount_0f7a4_29 : decode cJ6_bitCount_0f7a4 29 = .ok (.ldc_w 267, 3) := by decide +kernel
theorem dJ6_bitCount_0f7a4_32 : decode cJ6_bitCount_0f7a4 32 = .ok (.iand, 1) := by decide +kernel
theorem dJ6_bitCount_0f7a4_33 : decode cJ6_bitCount_0f7a4 33 = .ok (.istore_n 0, 1) := by decide +kernel
theorem dJ6_bitCount_0f7a4_34 : decode cJ6_bitCount_0f7a4 34 = .ok (.iload_n 0, 1) := by decide +kernel
theorem dJ6_bitCount_0f7a4_35 : decode cJ6_bitCount_0f7a4 35 = .ok (.iload_n 0, 1) := by decide +kernel
theorem dJ6_bitCount_0f7a4_36 : decode cJ6_bitCount_0f7a4 36 = .ok (.bipush 8, 2) := by decide +kernel
theorem dJ6_bitCount_0f7a4_38 : decode cJ6_bitCount_0f7a4 38 = .ok (.iushr, 1) := by decide +kernel
theorem dJ6_bitCount_0f7a4_39 : decode cJ6_bitCount_0f7a4 39 = .ok (.iadd, 1) := by decide +kernel
theorem dJ6_bitCount_0f7a4_40 : decode cJ6_bitCount_0f7a4 40 = .ok (.istore_n 0, 1) := by decide +kernel
theorem dJ6_bitCount_0f7a4_41 : decode cJ6_bitCount_0f7a4 41 = .ok (.iload_n 0, 1) := by decide +kernel
theorem dJ6_bitCount_0f7a4_42 : decode cJ6_bitCount_0f7a4 42 = .ok (.iload_n 0, 1) := by decide +kernel
theorem dJ6_bitCount_0f7a4_43 : decode cJ6_bitCount_0f7a4 43 = .ok (.bipush 16, 2) := by decide +kernel
theorem dJ6_bitCount_0f7a4_45 : decode cJ6_bitCount_0f7a4 45 = .ok (.iushr, 1) := by decide +kernel
theorem dJ6_bitCount_0f7a4_46 : decode cJ6_bitCount_0f7a4 46 = .ok (.iadd, 1) := by decide +kernel
theorem dJ6_bitCount_0f7a4_47 : decode cJ6_bitCount_0f7a4 47 = .ok (.istore_n 0, 1) := by decide +kernel
theorem dJ6_bitCount_0f7a4_48 : decode cJ6_bitCount_0f7a4 48 = .ok (.iload_n 0, 1) := by decide +kernel
theorem dJ6_bitCount_0f7a4_49 : decode cJ6_bitCount_0f7a4 49 = .ok (.bipush 63, 2) := by decide +kernel
theorem dJ6_bitCount_0f7a4_51 : decode cJ6_bitCount_0f7a4 51 = .ok (.iand, 1) := by decide +kernel
theorem dJ6_bitCount_0f7a4_52 : decode cJ6_bitCount_0f7a4 52 = .ok (.ireturn, 1) := by decide +kernel
theorem dJ9_max_7cf53_0 : decode cJ9_max_7cf53 0 = .ok (.iload_n 0, 1) := by decide +kernel
theorem dJ9_max_7cf53_1 : decode cJ9_max_7cf53 1 = .ok (.iload_n 1, 1) := by decide +kernel
theorem dJ9_max_7cf53_2 : decode cJ9_max_7cf53 2 = .ok (.if_icmp .lt 7, 3) := by decide +kernel
theorem dJ9_max_7cf53_5 : decode cJ9_max_7cf53 5 = .ok (.iload_n 0, 1) := by decide +kernel
theorem dJ9_max_7cf53_6 : decode cJ9_max_7cf53 6 = .ok (.goto 4, 3) := by decide +kernel
theorem dJ9_max_7cf53_9 : decode cJ9_max_7cf53 9 = .ok (.iload_n 1, 1) := by decide +kernel
theorem dJ9_max_7cf53_10 : decode cJ9_max_7cf53 10 = .ok (.ireturn, 1) := by decide +kernel
theorem dJ9_min_7cf53_0 : decode cJ9_min_7cf53 0 = .ok (.iload_n 0, 1) := by decide +kernel
theorem dJ9_min_7cf53_1 : decode cJ9_min_7cf53 1 = .ok (.iload_n 1, 1) := by decide +kernel
theorem dJ9_min_7cf53_2 : decode cJ9_min_7cf53 2 = .ok (.if_icmp .gt 7, 3) := by decide +kernel
theorem dJ9_min_7cf53_5 : decode cJ9_min_7cf53 5 = .ok (.iload_n 0, 1) := by decide +kernel
theorem dJ9_min_7cf53_6 : decode cJ9_min_7cf53 6 = .ok (.goto 4, 3) := by decide +kernel
theorem dJ9_min_7cf53_9 : decode cJ9_min_7cf53 9 = .ok (.iload_n 1, 1) := by decide +kernel
theorem dJ9_min_7cf53_10 : decode cJ9_min_7cf53 10 = .ok (.ireturn, 1) := by decide +kernel
