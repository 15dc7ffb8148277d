set_option maxRecDepth 20000 in
theorem ggL_addPlayer_X4_addPlayer : GoodIn wsL_addPlayer wsX4_addPlayer := goodIn_ca (goodIn_r _ [6, 7, 8, 9, 10, 11, 12, 5, 13, 14, 15, 16, 17, 18, 19, 20, 21, 22, 23, 24, 25, 26, 27, 28, 29, 30, 31, 32] (by decide +kernel) (by decide +kernel)) (goodIn_sub (fun _ h => List.mem_cons_of_mem _ (List.mem_append_right _ h)) (by decide +kernel))
set_option maxRecDepth 20000 in
theorem gL_addPlayer_X4_addPlayer : GoodIn wsL_addPlayer (wsV RL 7 RX4 yX4_addPlayer wsX4_addPlayer) := goodIn_app (goodIn_of _ (by decide +kernel)) ggL_addPlayer_X4_addPlayer
theorem dL_addPlayer_0 : decode cL_addPlayer 0 = .ok (.aload_n 1, 1) := by decide +kernel
theorem dL_addPlayer_1 : decode cL_addPlayer 1 = .ok (.iconst 0, 1) := by decide +kernel
theorem dL_addPlayer_2 : decode cL_addPlayer 2 = .ok (.aload_n 0, 1) := by decide +kernel
theorem dL_addPlayer_3 : decode cL_addPlayer 3 = .ok (.invokevirtual 7, 3) := by decide +kernel
theorem dL_addPlayer_6 : decode cL_addPlayer 6 = .ok (.i2l, 1) := by decide +kernel
theorem dL_addPlayer_7 : decode cL_addPlayer 7 = .ok (.lastore, 1) := by decide +kernel
theorem dL_addPlayer_8 : decode cL_addPlayer 8 = .ok (.goto 6, 3) := by decide +kernel
theorem dL_addPlayer_11 : decode cL_addPlayer 11 = .ok (.astore_n 2, 1) := by decide +kernel
theorem dL_addPlayer_12 : decode cL_addPlayer 12 = .ok (.iconst 1, 1) := by decide +kernel
theorem dL_addPlayer_13 : decode cL_addPlayer 13 = .ok (.ireturn, 1) := by decide +kernel
theorem dL_addPlayer_14 : decode cL_addPlayer 14 = .ok (.iconst 0, 1) := by decide +kernel
theorem dL_addPlayer_15 : decode cL_addPlayer 15 = .ok (.ireturn, 1) := by decide +kernel
set_option maxRecDepth 20000 in
theorem ggL_throwBall_X4_throwBall : GoodIn wsL_throwBall wsX4_throwBall := goodIn_ca (goodIn_ca (goodIn_r _ [7, 8, 9, 10, 11, 12, 13, 14, 15, 16, 6, 17, 18, 19, 20, 21, 22, 23, 24, 25, 26, 27, 28, 29, 30, 31, 32, 33, 34, 35, 36, 37, 38, 39, 40, 41, 42, 43, 44, 45, 46, 47, 48, 49, 50, 51, 52, 53, 54, 55, 56, 57, 58, 59, 60, 61, 62, 63, 64, 65, 66, 67, 68, 69, 70, 71, 72, 73, 74, 75, 76, 77, 78, 79, 80, 81, 82, 83, 84, 85, 86, 87, 88, 89, 90, 91, 92, 93, 94, 95, 96, 97, 98, 99, 100, 101, 102, 103, 104, 105, 106, 107, 108, 109, 110, 111, 112, 113, 114, 115, 116, 117, 118, 119, 120] (by decide +kernel) (by decide +kernel)) (goodIn_sub (fun _ h => List.mem_cons_of_mem _ (List.mem_append_left _ (List.mem_append_right _ h))) (by decide +kernel))) (goodIn_sub (fun _ h => List.mem_cons_of_mem _ (List.mem_append_right _ h)) (by decide +kernel))
set_option maxRecDepth 20000 in
theorem gL_throwBall_X4_throwBall : GoodIn wsL_throwBall (wsV RL 15 RX4 yX4_throwBall wsX4_throwBall) := goodIn_app (goodIn_of _ (by decide +kernel)) ggL_throwBall_X4_throwBall
theorem dL_throwBall_0 : decode cL_throwBall 0 = .ok (.aload_n 3, 1) := by decide +kernel
theorem dL_throwBall_1 : decode cL_throwBall 1 = .ok (.iconst 0, 1) := by decide +kernel
theorem dL_throwBall_2 : decode cL_throwBall 2 = .ok (.aload_n 0, 1) := by decide +kernel
theorem dL_throwBall_3 : decode cL_throwBall 3 = .ok (.iload_n 1, 1) := by decide +kernel
theorem dL_throwBall_4 : decode cL_throwBall 4 = .ok (.iload_n 2, 1) := by decide +kernel
theorem dL_throwBall_5 : decode cL_throwBall 5 = .ok (.invokevirtual 15, 3) := by decide +kernel
theorem dL_throwBall_8 : decode cL_throwBall 8 = .ok (.i2l, 1) := by decide +kernel
theorem dL_throwBall_9 : decode cL_throwBall 9 = .ok (.lastore, 1) := by decide +kernel
theorem dL_throwBall_10 : decode cL_throwBall 10 = .ok (.goto 11, 3) := by decide +kernel
theorem dL_throwBall_13 : decode cL_throwBall 13 = .ok (.astore 4, 2) := by decide +kernel
theorem dL_throwBall_15 : decode cL_throwBall 15 = .ok (.iconst 1, 1) := by decide +kernel
theorem dL_throwBall_16 : decode cL_throwBall 16 = .ok (.ireturn, 1) := by decide +kernel
theorem dL_throwBall_17 : decode cL_throwBall 17 = .ok (.astore 4, 2) := by decide +kernel
theorem dL_throwBall_19 : decode cL_throwBall 19 = .ok (.iconst 2, 1) := by decide +kernel
theorem dL_throwBall_20 : decode cL_throwBall 20 = .ok (.ireturn, 1) := by decide +kernel
theorem dL_throwBall_21 : decode cL_throwBall 21 = .ok (.iconst 0, 1) := by decide +kernel
theorem dL_throwBall_22 : decode cL_throwBall 22 = .ok (.ireturn, 1) := by decide +kernel
set_option maxRecDepth 20000 in
theorem ggL_replaceString_X4_replaceString : GoodIn wsL_replaceString wsX4_replaceString := goodIn_ca (goodIn_ca (goodIn_r _ [7, 8, 9, 10, 11, 12, 6, 13, 14, 15, 16, 17, 18, 19, 20, 21, 22, 23, 24, 25, 26, 27, 28, 29, 30, 31, 32, 33, 34, 35, 36, 37, 38, 39] (by decide +kernel) (by decide +kernel)) (goodIn_sub (fun _ h => List.mem_cons_of_mem _ (List.mem_append_left _ (List.mem_append_right _ h))) (by decide +kernel))) (goodIn_sub (fun _ h => List.mem_cons_of_mem _ (List.mem_append_right _ h)) (by decide +kernel))
set_option maxRecDepth 20000 in
theorem gL_replaceString_X4_replaceString : GoodIn wsL_replaceString (wsV RL 21 RX4 yX4_replaceString wsX4_replaceString) := goodIn_app (goodIn_of _ (by decide +kernel)) ggL_replaceString_X4_replaceString
theorem dL_replaceString_0 : decode cL_replaceString 0 = .ok (.aload_n 2, 1) := by decide +kernel
theorem dL_replaceString_1 : decode cL_replaceString 1 = .ok (.iconst 0, 1) := by decide +kernel
theorem dL_replaceString_2 : decode cL_replaceString 2 = .ok (.aload_n 0, 1) := by decide +kernel
theorem dL_replaceString_3 : decode cL_replaceString 3 = .ok (.iload_n 1, 1) := by decide +kernel
theorem dL_replaceString_4 : decode cL_replaceString 4 = .ok (.invokevirtual 21, 3) := by decide +kernel
theorem dL_replaceString_7 : decode cL_replaceString 7 = .ok (.i2l, 1) := by decide +kernel
theorem dL_replaceString_8 : decode cL_replaceString 8 = .ok (.lastore, 1) := by decide +kernel
theorem dL_replaceString_9 : decode cL_replaceString 9 = .ok (.goto 9, 3) := by decide +kernel
theorem dL_replaceString_12 : decode cL_replaceString 12 = .ok (.astore_n 3, 1) := by decide +kernel
theorem dL_replaceString_13 : decode cL_replaceString 13 = .ok (.iconst 1, 1) := by decide +kernel
theorem dL_replaceString_14 : decode cL_replaceString 14 = .ok (.ireturn, 1) := by decide +kernel
theorem dL_replaceString_15 : decode cL_replaceString 15 = .ok (.astore_n 3, 1) := by decide +kernel
theorem dL_replaceString_16 : decode cL_replaceString 16 = .ok (.iconst 2, 1) := by decide +kernel
theorem dL_replaceString_17 : decode cL_replaceString 17 = .ok (.ireturn, 1) := by decide +kernel
theorem dL_replaceString_18 : decode cL_replaceString 18 = .ok (.iconst 0, 1) := by decide +kernel
theorem dL_replaceString_19 : decode cL_replaceString 19 = .ok (.ireturn, 1) := by decide +kernel
set_option maxRecDepth 20000 in
theorem ggL_buyStrings_X4_buyStrings : GoodIn wsL_buyStrings wsX4_buyStrings := goodIn_ca (goodIn_r _ [6, 7, 8, 9, 10, 11, 12, 13, 14, 15, 16, 17, 18, 19, 20, 21, 22, 23, 24, 25, 26, 27, 28, 29] (by decide +kernel) (by decide +kernel)) (goodIn_sub (fun _ h => List.mem_cons_of_mem _ (List.mem_append_right _ h)) (by decide +kernel))
set_option maxRecDepth 20000 in
theorem gL_buyStrings_X4_buyStrings : GoodIn wsL_buyStrings (wsV RL 25 RX4 yX4_buyStrings wsX4_buyStrings) := goodIn_app (goodIn_of _ (by decide +kernel)) ggL_buyStrings_X4_buyStrings
theorem dL_buyStrings_0 : decode cL_buyStrings 0 = .ok (.aload_n 2, 1) := by decide +kernel
theorem dL_buyStrings_1 : decode cL_buyStrings 1 = .ok (.iconst 0, 1) := by decide +kernel
theorem dL_buyStrings_2 : decode cL_buyStrings 2 = .ok (.aload_n 0, 1) := by decide +kernel
theorem dL_buyStrings_3 : decode cL_buyStrings 3 = .ok (.iload_n 1, 1) := by decide +kernel
theorem dL_buyStrings_4 : decode cL_buyStrings 4 = .ok (.invokevirtual 25, 3) := by decide +kernel
theorem dL_buyStrings_7 : decode cL_buyStrings 7 = .ok (.i2l, 1) := by decide +kernel
theorem dL_buyStrings_8 : decode cL_buyStrings 8 = .ok (.lastore, 1) := by decide +kernel
theorem dL_buyStrings_9 : decode cL_buyStrings 9 = .ok (.goto 6, 3) := by decide +kernel
theorem dL_buyStrings_12 : decode cL_buyStrings 12 = .ok (.astore_n 3, 1) := by decide +kernel
theorem dL_buyStrings_13 : decode cL_buyStrings 13 = .ok (.iconst 1, 1) := by decide +kernel
theorem dL_buyStrings_14 : decode cL_buyStrings 14 = .ok (.ireturn, 1) := by decide +kernel
theorem dL_buyStrings_15 : decode cL_buyStrings 15 = .ok (.iconst 0, 1) := by decide +kernel
theorem dL_buyStrings_16 : decode cL_buyStrings 16 = .ok (.ireturn, 1) := by decide +kernel
set_option maxRecDepth 20000 in
theorem ggL_isStanding_X4_isStanding : GoodIn wsL_isStanding wsX4_isStanding := goodIn_ca (goodIn_r _ [6, 7, 8, 9, 5, 10, 11, 12, 13, 14, 15, 16, 17, 18, 19, 20, 21, 22, 23, 24, 25, 26, 27, 28, 29, 30, 31, 32, 33, 34, 35] (by decide +kernel) (by decide +kernel)) (goodIn_sub (fun _ h => List.mem_cons_of_mem _ (List.mem_append_right _ h)) (by decide +kernel))
set_option maxRecDepth 20000 in
theorem gL_isStanding_X4_isStanding : GoodIn wsL_isStanding (wsV RL 30 RX4 yX4_isStanding wsX4_isStanding) := goodIn_app (goodIn_of _ (by decide +kernel)) ggL_isStanding_X4_isStanding
theorem dL_isStanding_0 : decode cL_isStanding 0 = .ok (.aload_n 2, 1) := by decide +kernel
theorem dL_isStanding_1 : decode cL_isStanding 1 = .ok (.iconst 0, 1) := by decide +kernel
theorem dL_isStanding_2 : decode cL_isStanding 2 = .ok (.aload_n 0, 1) := by decide +kernel
theorem dL_isStanding_3 : decode cL_isStanding 3 = .ok (.iload_n 1, 1) := by decide +kernel
theorem dL_isStanding_4 : decode cL_isStanding 4 = .ok (.invokevirtual 30, 3) := by decide +kernel
theorem dL_isStanding_7 : decode cL_isStanding 7 = .ok (.ifCond .eq 7, 3) := by decide +kernel
theorem dL_isStanding_10 : decode cL_isStanding 10 = .ok (.lconst 1, 1) := by decide +kernel
theorem dL_isStanding_11 : decode cL_isStanding 11 = .ok (.goto 4, 3) := by decide +kernel
theorem dL_isStanding_14 : decode cL_isStanding 14 = .ok (.lconst 0, 1) := by decide +kernel
theorem dL_isStanding_15 : decode cL_isStanding 15 = .ok (.lastore, 1) := by decide +kernel
theorem dL_isStanding_16 : decode cL_isStanding 16 = .ok (.goto 6, 3) := by decide +kernel
theorem dL_isStanding_19 : decode cL_isStanding 19 = .ok (.astore_n 3, 1) := by decide +kernel
theorem dL_isStanding_20 : decode cL_isStanding 20 = .ok (.iconst 1, 1) := by decide +kernel
theorem dL_isStanding_21 : decode cL_isStanding 21 = .ok (.ireturn, 1) := by decide +kernel
theorem dL_isStanding_22 : decode cL_isStanding 22 = .ok (.iconst 0, 1) := by decide +kernel
theorem dL_isStanding_23 : decode cL_isStanding 23 = .ok (.ireturn, 1) := by decide +kernel
set_option maxRecDepth 20000 in
theorem ggL_wearOf_X4_wearOf : GoodIn wsL_wearOf wsX4_wearOf := goodIn_ca (goodIn_r _ [6, 7, 8, 9, 5, 10, 11, 12, 13, 14, 15, 16, 17, 18, 19, 20, 21, 22, 23, 24, 25, 26, 27, 28, 29, 30, 31] (by decide +kernel) (by decide +kernel)) (goodIn_sub (fun _ h => List.mem_cons_of_mem _ (List.mem_append_right _ h)) (by decide +kernel))
set_option maxRecDepth 20000 in
theorem gL_wearOf_X4_wearOf : GoodIn wsL_wearOf (wsV RL 34 RX4 yX4_wearOf wsX4_wearOf) := goodIn_app (goodIn_of _ (by decide +kernel)) ggL_wearOf_X4_wearOf
theorem dL_wearOf_0 : decode cL_wearOf 0 = .ok (.aload_n 2, 1) := by decide +kernel
theorem dL_wearOf_1 : decode cL_wearOf 1 = .ok (.iconst 0, 1) := by decide +kernel
theorem dL_wearOf_2 : decode cL_wearOf 2 = .ok (.aload_n 0, 1) := by decide +kernel
theorem dL_wearOf_3 : decode cL_wearOf 3 = .ok (.iload_n 1, 1) := by decide +kernel
theorem dL_wearOf_4 : decode cL_wearOf 4 = .ok (.invokevirtual 34, 3) := by decide +kernel
theorem dL_wearOf_7 : decode cL_wearOf 7 = .ok (.i2l, 1) := by decide +kernel
theorem dL_wearOf_8 : decode cL_wearOf 8 = .ok (.lastore, 1) := by decide +kernel
theorem dL_wearOf_9 : decode cL_wearOf 9 = .ok (.goto 6, 3) := by decide +kernel
theorem dL_wearOf_12 : decode cL_wearOf 12 = .ok (.astore_n 3, 1) := by decide +kernel
theorem dL_wearOf_13 : decode cL_wearOf 13 = .ok (.iconst 1, 1) := by decide +kernel
theorem dL_wearOf_14 : decode cL_wearOf 14 = .ok (.ireturn, 1) := by decide +kernel
theorem dL_wearOf_15 : decode cL_wearOf 15 = .ok (.iconst 0, 1) := by decide +kernel
theorem dL_wearOf_16 : decode cL_wearOf 16 = .ok (.ireturn, 1) := by decide +kernel
set_option maxRecDepth 20000 in
theorem ggL_isBroken_X4_isBroken : GoodIn wsL_isBroken wsX4_isBroken := goodIn_ca (goodIn_r _ [6, 7, 8, 9, 5, 10, 11, 12, 13, 14, 15, 16, 17, 18, 19, 20, 21, 22, 23, 24, 25, 26, 27, 28, 29, 30, 31] (by decide +kernel) (by decide +kernel)) (goodIn_sub (fun _ h => List.mem_cons_of_mem _ (List.mem_append_right _ h)) (by decide +kernel))
set_option maxRecDepth 20000 in
theorem gL_isBroken_X4_isBroken : GoodIn wsL_isBroken (wsV RL 37 RX4 yX4_isBroken wsX4_isBroken) := goodIn_app (goodIn_of _ (by decide +kernel)) ggL_isBroken_X4_isBroken
theorem dL_isBroken_0 : decode cL_isBroken 0 = .ok (.aload_n 2, 1) := by decide +kernel
theorem dL_isBroken_1 : decode cL_isBroken 1 = .ok (.iconst 0, 1) := by decide +kernel
theorem dL_isBroken_2 : decode cL_isBroken 2 = .ok (.aload_n 0, 1) := by decide +kernel
theorem dL_isBroken_3 : decode cL_isBroken 3 = .ok (.iload_n 1, 1) := by decide +kernel
theorem dL_isBroken_4 : decode cL_isBroken 4 = .ok (.invokevirtual 37, 3) := by decide +kernel
theorem dL_isBroken_7 : decode cL_isBroken 7 = .ok (.ifCond .eq 7, 3) := by decide +kernel
theorem dL_isBroken_10 : decode cL_isBroken 10 = .ok (.lconst 1, 1) := by decide +kernel
theorem dL_isBroken_11 : decode cL_isBroken 11 = .ok (.goto 4, 3) := by decide +kernel
theorem dL_isBroken_14 : decode cL_isBroken 14 = .ok (.lconst 0, 1) := by decide +kernel
theorem dL_isBroken_15 : decode cL_isBroken 15 = .ok (.lastore, 1) := by decide +kernel
theorem dL_isBroken_16 : decode cL_isBroken 16 = .ok (.goto 6, 3) := by decide +kernel
theorem dL_isBroken_19 : decode cL_isBroken 19 = .ok (.astore_n 3, 1) := by decide +kernel
theorem dL_isBroken_20 : decode cL_isBroken 20 = .ok (.iconst 1, 1) := by decide +kernel
theorem dL_isBroken_21 : decode cL_isBroken 21 = .ok (.ireturn, 1) := by decide +kernel
theorem dL_isBroken_22 : decode cL_isBroken 22 = .ok (.iconst 0, 1) := by decide +kernel
theorem dL_isBroken_23 : decode cL_isBroken 23 = .ok (.ireturn, 1) := by decide +kernel
set_option maxRecDepth 20000 in
theorem ggL_awayFor_X4_awayFor : GoodIn wsL_awayFor wsX4_awayFor := goodIn_ca (goodIn_r _ [6, 7, 8, 9, 5, 10, 11, 12, 13, 14, 15, 16, 17, 18, 19, 20, 21, 22, 23, 24, 25, 26, 27, 28, 29] (by decide +kernel) (by decide +kernel)) (goodIn_sub (fun _ h => List.mem_cons_of_mem _ (List.mem_append_right _ h)) (by decide +kernel))
set_option maxRecDepth 20000 in
theorem gL_awayFor_X4_awayFor : GoodIn wsL_awayFor (wsV RL 40 RX4 yX4_awayFor wsX4_awayFor) := goodIn_app (goodIn_of _ (by decide +kernel)) ggL_awayFor_X4_awayFor
theorem dL_awayFor_0 : decode cL_awayFor 0 = .ok (.aload_n 2, 1) := by decide +kernel
theorem dL_awayFor_1 : decode cL_awayFor 1 = .ok (.iconst 0, 1) := by decide +kernel
theorem dL_awayFor_2 : decode cL_awayFor 2 = .ok (.aload_n 0, 1) := by decide +kernel
theorem dL_awayFor_3 : decode cL_awayFor 3 = .ok (.iload_n 1, 1) := by decide +kernel
theorem dL_awayFor_4 : decode cL_awayFor 4 = .ok (.invokevirtual 40, 3) := by decide +kernel
theorem dL_awayFor_7 : decode cL_awayFor 7 = .ok (.i2l, 1) := by decide +kernel
theorem dL_awayFor_8 : decode cL_awayFor 8 = .ok (.lastore, 1) := by decide +kernel
theorem dL_awayFor_9 : decode cL_awayFor 9 = .ok (.goto 6, 3) := by decide +kernel
theorem dL_awayFor_12 : decode cL_awayFor 12 = .ok (.astore_n 3, 1) := by decide +kernel
theorem dL_awayFor_13 : decode cL_awayFor 13 = .ok (.iconst 1, 1) := by decide +kernel
theorem dL_awayFor_14 : decode cL_awayFor 14 = .ok (.ireturn, 1) := by decide +kernel
theorem dL_awayFor_15 : decode cL_awayFor 15 = .ok (.iconst 0, 1) := by decide +kernel
theorem dL_awayFor_16 : decode cL_awayFor 16 = .ok (.ireturn, 1) := by decide +kernel
set_option maxRecDepth 20000 in
theorem ggL_throwsOf_X4_throwsOf : GoodIn wsL_throwsOf wsX4_throwsOf := goodIn_ca (goodIn_r _ [6, 7, 8, 9, 10, 5, 11, 12, 13, 14, 15, 16, 17, 18, 19, 20, 21, 22, 23, 24, 25, 26, 27, 28, 29, 30, 31, 32, 33, 34, 35] (by decide +kernel) (by decide +kernel)) (goodIn_sub (fun _ h => List.mem_cons_of_mem _ (List.mem_append_right _ h)) (by decide +kernel))
set_option maxRecDepth 20000 in
theorem gL_throwsOf_X4_throwsOf : GoodIn wsL_throwsOf (wsV RL 43 RX4 yX4_throwsOf wsX4_throwsOf) := goodIn_app (goodIn_of _ (by decide +kernel)) ggL_throwsOf_X4_throwsOf
theorem dL_throwsOf_0 : decode cL_throwsOf 0 = .ok (.aload_n 2, 1) := by decide +kernel
theorem dL_throwsOf_1 : decode cL_throwsOf 1 = .ok (.iconst 0, 1) := by decide +kernel
theorem dL_throwsOf_2 : decode cL_throwsOf 2 = .ok (.aload_n 0, 1) := by decide +kernel
theorem dL_throwsOf_3 : decode cL_throwsOf 3 = .ok (.iload_n 1, 1) := by decide +kernel
theorem dL_throwsOf_4 : decode cL_throwsOf 4 = .ok (.invokevirtual 43, 3) := by decide +kernel
theorem dL_throwsOf_7 : decode cL_throwsOf 7 = .ok (.i2l, 1) := by decide +kernel
theorem dL_throwsOf_8 : decode cL_throwsOf 8 = .ok (.lastore, 1) := by decide +kernel
theorem dL_throwsOf_9 : decode cL_throwsOf 9 = .ok (.goto 6, 3) := by decide +kernel
theorem dL_throwsOf_12 : decode cL_throwsOf 12 = .ok (.astore_n 3, 1) := by decide +kernel
theorem dL_throwsOf_13 : decode cL_throwsOf 13 = .ok (.iconst 1, 1) := by decide +kernel
theorem dL_throwsOf_14 : decode cL_throwsOf 14 = .ok (.ireturn, 1) := by decide +kernel
theorem dL_throwsOf_15 : decode cL_throwsOf 15 = .ok (.iconst 0, 1) := by decide +kernel
theorem dL_throwsOf_16 : decode cL_throwsOf 16 = .ok (.ireturn, 1) := by decide +kernel
set_option maxRecDepth 20000 in
theorem ggL_scoreOf_X4_scoreOf : GoodIn wsL_scoreOf wsX4_scoreOf := goodIn_ca (goodIn_r _ [6, 7, 8, 9, 10, 5, 11, 12, 13, 14, 15, 16, 17, 18, 19, 20, 21, 22, 23, 24, 25, 26, 27, 28, 29, 30, 31, 32, 33, 34, 35, 36, 37, 38, 39, 40, 41, 42, 43, 44, 45, 46, 47] (by decide +kernel) (by decide +kernel)) (goodIn_sub (fun _ h => List.mem_cons_of_mem _ (List.mem_append_right _ h)) (by decide +kernel))
set_option maxRecDepth 20000 in
theorem gL_scoreOf_X4_scoreOf : GoodIn wsL_scoreOf (wsV RL 46 RX4 yX4_scoreOf wsX4_scoreOf) := goodIn_app (goodIn_of _ (by decide +kernel)) ggL_scoreOf_X4_scoreOf
theorem dL_scoreOf_0 : decode cL_scoreOf 0 = .ok (.aload_n 2, 1) := by decide +kernel
theorem dL_scoreOf_1 : decode cL_scoreOf 1 = .ok (.iconst 0, 1) := by decide +kernel
theorem dL_scoreOf_2 : decode cL_scoreOf 2 = .ok (.aload_n 0, 1) := by decide +kernel
theorem dL_scoreOf_3 : decode cL_scoreOf 3 = .ok (.iload_n 1, 1) := by decide +kernel
theorem dL_scoreOf_4 : decode cL_scoreOf 4 = .ok (.invokevirtual 46, 3) := by decide +kernel
theorem dL_scoreOf_7 : decode cL_scoreOf 7 = .ok (.i2l, 1) := by decide +kernel
theorem dL_scoreOf_8 : decode cL_scoreOf 8 = .ok (.lastore, 1) := by decide +kernel
theorem dL_scoreOf_9 : decode cL_scoreOf 9 = .ok (.goto 6, 3) := by decide +kernel
theorem dL_scoreOf_12 : decode cL_scoreOf 12 = .ok (.astore_n 3, 1) := by decide +kernel
theorem dL_scoreOf_13 : decode cL_scoreOf 13 = .ok (.iconst 1, 1) := by decide +kernel
theorem dL_scoreOf_14 : decode cL_scoreOf 14 = .ok (.ireturn, 1) := by decide +kernel
theorem dL_scoreOf_15 : decode cL_scoreOf 15 = .ok (.iconst 0, 1) := by decide +kernel
theorem dL_scoreOf_16 : decode cL_scoreOf 16 = .ok (.ireturn, 1) := by decide +kernel
set_option maxRecDepth 20000 in
theorem ggL_pointsOf_X4_pointsOf : GoodIn wsL_pointsOf wsX4_pointsOf := goodIn_ca (goodIn_r _ [6, 7, 8, 9, 10, 5, 11, 12, 13, 14, 15, 16, 17, 18, 19, 20, 21, 22, 23, 24, 25, 26, 27, 28, 29, 30, 31, 32, 33, 34, 35, 36, 37, 38, 39, 40, 41, 42, 43] (by decide +kernel) (by decide +kernel)) (goodIn_sub (fun _ h => List.mem_cons_of_mem _ (List.mem_append_right _ h)) (by decide +kernel))
set_option maxRecDepth 20000 in
theorem gL_pointsOf_X4_pointsOf : GoodIn wsL_pointsOf (wsV RL 49 RX4 yX4_pointsOf wsX4_pointsOf) := goodIn_app (goodIn_of _ (by decide +kernel)) ggL_pointsOf_X4_pointsOf
theorem dL_pointsOf_0 : decode cL_pointsOf 0 = .ok (.aload_n 3, 1) := by decide +kernel
theorem dL_pointsOf_1 : decode cL_pointsOf 1 = .ok (.iconst 0, 1) := by decide +kernel
theorem dL_pointsOf_2 : decode cL_pointsOf 2 = .ok (.aload_n 0, 1) := by decide +kernel
theorem dL_pointsOf_3 : decode cL_pointsOf 3 = .ok (.iload_n 1, 1) := by decide +kernel
theorem dL_pointsOf_4 : decode cL_pointsOf 4 = .ok (.iload_n 2, 1) := by decide +kernel
theorem dL_pointsOf_5 : decode cL_pointsOf 5 = .ok (.invokevirtual 49, 3) := by decide +kernel
theorem dL_pointsOf_8 : decode cL_pointsOf 8 = .ok (.i2l, 1) := by decide +kernel
theorem dL_pointsOf_9 : decode cL_pointsOf 9 = .ok (.lastore, 1) := by decide +kernel
theorem dL_pointsOf_10 : decode cL_pointsOf 10 = .ok (.goto 7, 3) := by decide +kernel
theorem dL_pointsOf_13 : decode cL_pointsOf 13 = .ok (.astore 4, 2) := by decide +kernel
theorem dL_pointsOf_15 : decode cL_pointsOf 15 = .ok (.iconst 1, 1) := by decide +kernel
theorem dL_pointsOf_16 : decode cL_pointsOf 16 = .ok (.ireturn, 1) := by decide +kernel
theorem dL_pointsOf_17 : decode cL_pointsOf 17 = .ok (.iconst 0, 1) := by decide +kernel
theorem dL_pointsOf_18 : decode cL_pointsOf 18 = .ok (.ireturn, 1) := by decide +kernel
set_option maxRecDepth 20000 in
theorem ggL_strikesOf_X4_strikesOf : GoodIn wsL_strikesOf wsX4_strikesOf := goodIn_ca (goodIn_r _ [6, 7, 8, 9, 10, 5, 11, 12, 13, 14, 15, 16, 17, 18, 19, 20, 21, 22, 23, 24, 25, 26, 27, 28, 29, 30, 31, 32, 33, 34, 35, 36, 37, 38, 39] (by decide +kernel) (by decide +kernel)) (goodIn_sub (fun _ h => List.mem_cons_of_mem _ (List.mem_append_right _ h)) (by decide +kernel))
set_option maxRecDepth 20000 in
theorem gL_strikesOf_X4_strikesOf : GoodIn wsL_strikesOf (wsV RL 52 RX4 yX4_strikesOf wsX4_strikesOf) := goodIn_app (goodIn_of _ (by decide +kernel)) ggL_strikesOf_X4_strikesOf
theorem dL_strikesOf_0 : decode cL_strikesOf 0 = .ok (.aload_n 2, 1) := by decide +kernel
theorem dL_strikesOf_1 : decode cL_strikesOf 1 = .ok (.iconst 0, 1) := by decide +kernel
theorem dL_strikesOf_2 : decode cL_strikesOf 2 = .ok (.aload_n 0, 1) := by decide +kernel
theorem dL_strikesOf_3 : decode cL_strikesOf 3 = .ok (.iload_n 1, 1) := by decide +kernel
theorem dL_strikesOf_4 : decode cL_strikesOf 4 = .ok (.invokevirtual 52, 3) := by decide +kernel
theorem dL_strikesOf_7 : decode cL_strikesOf 7 = .ok (.i2l, 1) := by decide +kernel
theorem dL_strikesOf_8 : decode cL_strikesOf 8 = .ok (.lastore, 1) := by decide +kernel
theorem dL_strikesOf_9 : decode cL_strikesOf 9 = .ok (.goto 6, 3) := by decide +kernel
theorem dL_strikesOf_12 : decode cL_strikesOf 12 = .ok (.astore_n 3, 1) := by decide +kernel
theorem dL_strikesOf_13 : decode cL_strikesOf 13 = .ok (.iconst 1, 1) := by decide +kernel
theorem dL_strikesOf_14 : decode cL_strikesOf 14 = .ok (.ireturn, 1) := by decide +kernel
theorem dL_strikesOf_15 : decode cL_strikesOf 15 = .ok (.iconst 0, 1) := by decide +kernel
theorem dL_strikesOf_16 : decode cL_strikesOf 16 = .ok (.ireturn, 1) := by decide +kernel
set_option maxRecDepth 20000 in
theorem ggL_sparesOf_X4_sparesOf : GoodIn wsL_sparesOf wsX4_sparesOf := goodIn_ca (goodIn_r _ [6, 7, 8, 9, 10, 5, 11, 12, 13, 14, 15, 16, 17, 18, 19, 20, 21, 22, 23, 24, 25, 26, 27, 28, 29, 30, 31, 32, 33, 34, 35, 36, 37, 38, 39] (by decide +kernel) (by decide +kernel)) (goodIn_sub (fun _ h => List.mem_cons_of_mem _ (List.mem_append_right _ h)) (by decide +kernel))
set_option maxRecDepth 20000 in
theorem gL_sparesOf_X4_sparesOf : GoodIn wsL_sparesOf (wsV RL 55 RX4 yX4_sparesOf wsX4_sparesOf) := goodIn_app (goodIn_of _ (by decide +kernel)) ggL_sparesOf_X4_sparesOf
theorem dL_sparesOf_0 : decode cL_sparesOf 0 = .ok (.aload_n 2, 1) := by decide +kernel
theorem dL_sparesOf_1 : decode cL_sparesOf 1 = .ok (.iconst 0, 1) := by decide +kernel
theorem dL_sparesOf_2 : decode cL_sparesOf 2 = .ok (.aload_n 0, 1) := by decide +kernel
theorem dL_sparesOf_3 : decode cL_sparesOf 3 = .ok (.iload_n 1, 1) := by decide +kernel
theorem dL_sparesOf_4 : decode cL_sparesOf 4 = .ok (.invokevirtual 55, 3) := by decide +kernel
theorem dL_sparesOf_7 : decode cL_sparesOf 7 = .ok (.i2l, 1) := by decide +kernel
theorem dL_sparesOf_8 : decode cL_sparesOf 8 = .ok (.lastore, 1) := by decide +kernel
theorem dL_sparesOf_9 : decode cL_sparesOf 9 = .ok (.goto 6, 3) := by decide +kernel
theorem dL_sparesOf_12 : decode cL_sparesOf 12 = .ok (.astore_n 3, 1) := by decide +kernel
theorem dL_sparesOf_13 : decode cL_sparesOf 13 = .ok (.iconst 1, 1) := by decide +kernel
theorem dL_sparesOf_14 : decode cL_sparesOf 14 = .ok (.ireturn, 1) := by decide +kernel
theorem dL_sparesOf_15 : decode cL_sparesOf 15 = .ok (.iconst 0, 1) := by decide +kernel
theorem dL_sparesOf_16 : decode cL_sparesOf 16 = .ok (.ireturn, 1) := by decide +kernel
set_option maxRecDepth 20000 in
theorem ggL_wouldFall_X4_wouldFall : GoodIn wsL_wouldFall wsX4_wouldFall := goodIn_ca (goodIn_r _ [6, 7, 8, 9, 5, 10, 11, 12, 13, 14, 15, 16, 17, 18, 19, 20, 21, 22, 23, 24, 25, 26, 27, 28, 29, 30, 31, 32, 33, 34, 35, 36, 37, 38, 39, 40, 41, 42, 43, 44, 45, 46, 47, 48, 49, 50, 51, 52, 53, 54, 55] (by decide +kernel) (by decide +kernel)) (goodIn_sub (fun _ h => List.mem_cons_of_mem _ (List.mem_append_right _ h)) (by decide +kernel))
set_option maxRecDepth 20000 in
theorem gL_wouldFall_X4_wouldFall : GoodIn wsL_wouldFall (wsV RL 58 RX4 yX4_wouldFall wsX4_wouldFall) := goodIn_app (goodIn_of _ (by decide +kernel)) ggL_wouldFall_X4_wouldFall
theorem dL_wouldFall_0 : decode cL_wouldFall 0 = .ok (.aload_n 3, 1) := by decide +kernel
theorem dL_wouldFall_1 : decode cL_wouldFall 1 = .ok (.iconst 0, 1) := by decide +kernel
theorem dL_wouldFall_2 : decode cL_wouldFall 2 = .ok (.aload_n 0, 1) := by decide +kernel
theorem dL_wouldFall_3 : decode cL_wouldFall 3 = .ok (.iload_n 1, 1) := by decide +kernel
theorem dL_wouldFall_4 : decode cL_wouldFall 4 = .ok (.iload_n 2, 1) := by decide +kernel
theorem dL_wouldFall_5 : decode cL_wouldFall 5 = .ok (.invokevirtual 58, 3) := by decide +kernel
theorem dL_wouldFall_8 : decode cL_wouldFall 8 = .ok (.i2l, 1) := by decide +kernel
theorem dL_wouldFall_9 : decode cL_wouldFall 9 = .ok (.lastore, 1) := by decide +kernel
theorem dL_wouldFall_10 : decode cL_wouldFall 10 = .ok (.goto 7, 3) := by decide +kernel
theorem dL_wouldFall_13 : decode cL_wouldFall 13 = .ok (.astore 4, 2) := by decide +kernel
theorem dL_wouldFall_15 : decode cL_wouldFall 15 = .ok (.iconst 1, 1) := by decide +kernel
theorem dL_wouldFall_16 : decode cL_wouldFall 16 = .ok (.ireturn, 1) := by decide +kernel
theorem dL_wouldFall_17 : decode cL_wouldFall 17 = .ok (.iconst 0, 1) := by decide +kernel
theorem dL_wouldFall_18 : decode cL_wouldFall 18 = .ok (.ireturn, 1) := by decide +kernel
set_option maxRecDepth 20000 in
theorem ggL_lastToFall_X4_lastToFall : GoodIn wsL_lastToFall wsX4_lastToFall := goodIn_ca (goodIn_r _ [6, 7, 8, 9, 5, 10, 11, 12, 13, 14, 15, 16, 17, 18, 19, 20, 21, 22, 23, 24, 25, 26, 27, 28, 29, 30, 31, 32, 33, 34, 35, 36, 37, 38, 39, 40, 41, 42, 43, 44, 45, 46, 47, 48, 49, 50, 51] (by decide +kernel) (by decide +kernel)) (goodIn_sub (fun _ h => List.mem_cons_of_mem _ (List.mem_append_right _ h)) (by decide +kernel))
set_option maxRecDepth 20000 in
theorem gL_lastToFall_X4_lastToFall : GoodIn wsL_lastToFall (wsV RL 61 RX4 yX4_lastToFall wsX4_lastToFall) := goodIn_app (goodIn_of _ (by decide +kernel)) ggL_lastToFall_X4_lastToFall
theorem dL_lastToFall_0 : decode cL_lastToFall 0 = .ok (.aload_n 3, 1) := by decide +kernel
theorem dL_lastToFall_1 : decode cL_lastToFall 1 = .ok (.iconst 0, 1) := by decide +kernel
theorem dL_lastToFall_2 : decode cL_lastToFall 2 = .ok (.aload_n 0, 1) := by decide +kernel
theorem dL_lastToFall_3 : decode cL_lastToFall 3 = .ok (.iload_n 1, 1) := by decide +kernel
theorem dL_lastToFall_4 : decode cL_lastToFall 4 = .ok (.iload_n 2, 1) := by decide +kernel
theorem dL_lastToFall_5 : decode cL_lastToFall 5 = .ok (.invokevirtual 61, 3) := by decide +kernel
theorem dL_lastToFall_8 : decode cL_lastToFall 8 = .ok (.i2l, 1) := by decide +kernel
theorem dL_lastToFall_9 : decode cL_lastToFall 9 = .ok (.lastore, 1) := by decide +kernel
theorem dL_lastToFall_10 : decode cL_lastToFall 10 = .ok (.goto 7, 3) := by decide +kernel
theorem dL_lastToFall_13 : decode cL_lastToFall 13 = .ok (.astore 4, 2) := by decide +kernel
theorem dL_lastToFall_15 : decode cL_lastToFall 15 = .ok (.iconst 1, 1) := by decide +kernel
theorem dL_lastToFall_16 : decode cL_lastToFall 16 = .ok (.ireturn, 1) := by decide +kernel
theorem dL_lastToFall_17 : decode cL_lastToFall 17 = .ok (.iconst 0, 1) := by decide +kernel
theorem dL_lastToFall_18 : decode cL_lastToFall 18 = .ok (.ireturn, 1) := by decide +kernel
set_option maxRecDepth 20000 in
theorem ggL_law_X4_init : GoodIn wsL_law wsX4_init := goodIn_r _ [9, 10, 11, 12, 13, 14, 15, 16, 17, 18, 19, 20, 21, 22, 23, 24, 25, 26, 27, 28, 29, 30, 31, 32, 33, 34, 35, 36, 37, 38, 39, 40, 41, 42, 687, 688, 689, 665, 666, 667, 668, 669, 670, 671, 690, 691, 692, 693, 694, 695] (by decide +kernel) (by decide +kernel)
set_option maxRecDepth 20000 in
theorem gL_law_X4_init : GoodIn wsL_law (wsX4_init) := ggL_law_X4_init
set_option maxRecDepth 20000 in
theorem ggL_law_X5_init : GoodIn wsL_law wsX5_init := goodIn_r _ [45, 46, 11, 12, 47, 28, 48, 49, 50, 51, 52, 53, 54, 55, 56, 672, 673, 674, 675, 676, 677, 678, 679, 680, 681, 682, 683, 684, 685, 686] (by decide +kernel) (by decide +kernel)
set_option maxRecDepth 20000 in
theorem gL_law_X5_init : GoodIn wsL_law (wsX5_init) := ggL_law_X5_init
set_option maxRecDepth 20000 in
theorem ggL_law_L_addPlayer : GoodIn wsL_law wsL_addPlayer := goodIn_ca (goodIn_r _ [60, 61, 62, 63, 64, 2, 65, 66, 67, 68, 69, 70, 71, 72, 22, 73, 74, 75, 24, 76, 77, 665, 666, 667, 668, 669, 670, 671, 691, 692, 693, 694, 695] (by decide +kernel) (by decide +kernel)) (goodIn_sub (fun _ h => List.mem_append_left _ (List.mem_append_left _ (List.mem_append_right _ h))) (by decide +kernel))
set_option maxRecDepth 20000 in
theorem gL_law_L_addPlayer : GoodIn wsL_law (va_wsS RL 68 yL_addPlayer wsL_addPlayer) := goodIn_app (goodIn_of _ (by decide +kernel)) ggL_law_L_addPlayer
set_option maxRecDepth 20000 in
theorem ggL_law_X5_addPlayer : GoodIn wsL_law wsX5_addPlayer := goodIn_r _ [81, 82, 83, 84, 85, 86, 5, 87, 51, 88, 89, 90, 91, 672, 673, 674, 675, 676, 677, 678, 679, 680, 681, 682, 683, 684, 685, 686] (by decide +kernel) (by decide +kernel)
set_option maxRecDepth 20000 in
theorem gL_law_X5_addPlayer : GoodIn wsL_law (wsV RL 73 RX5 yX5_addPlayer wsX5_addPlayer) := goodIn_app (goodIn_of _ (by decide +kernel)) ggL_law_X5_addPlayer
set_option maxRecDepth 20000 in
theorem ggL_law_X5_thrown : GoodIn wsL_law wsX5_thrown := goodIn_r _ [95, 82, 672, 673, 674, 675, 676, 677, 678, 679, 680, 681, 682, 683, 684, 685, 686] (by decide +kernel) (by decide +kernel)
set_option maxRecDepth 20000 in
theorem gL_law_X5_thrown : GoodIn wsL_law (wsV RL 74 RX5 yX5_thrown wsX5_thrown) := goodIn_app (goodIn_of _ (by decide +kernel)) ggL_law_X5_thrown
set_option maxRecDepth 20000 in
theorem ggL_law_L_throwBall : GoodIn wsL_law wsL_throwBall := goodIn_ca (goodIn_ca (goodIn_r _ [98, 99, 61, 100, 101, 102, 2, 103, 66, 67, 20, 16, 22, 104, 105, 106, 107, 108, 109, 110, 111, 112, 113, 114, 115, 116, 117, 118, 119, 120, 68, 121, 122, 123, 124, 125, 126, 127, 128, 19, 129, 35, 130, 131, 132, 15, 133, 30, 29, 134, 135, 136, 137, 138, 139, 140, 141, 142, 143, 144, 145, 146, 147, 148, 149, 150, 151, 152, 153, 154, 155, 156, 157, 158, 159, 160, 161, 162, 163, 164, 165, 166, 167, 168, 169, 170, 24, 171, 77, 39, 41, 40, 42, 172, 173, 174, 175, 176, 177, 178, 179, 180, 181, 182, 183, 665, 666, 667, 668, 669, 670, 671, 690, 687, 688, 689, 691, 692, 693, 694, 695] (by decide +kernel) (by decide +kernel)) (goodIn_sub (fun _ h => List.mem_append_left _ (List.mem_append_left _ (List.mem_append_right _ h))) (by decide +kernel))) (goodIn_sub (fun _ h => List.mem_append_left _ (List.mem_append_right _ h)) (by decide +kernel))
set_option maxRecDepth 20000 in
theorem gL_law_L_throwBall : GoodIn wsL_law (va_wsS RL 77 yL_throwBall wsL_throwBall) := goodIn_app (goodIn_of _ (by decide +kernel)) ggL_law_L_throwBall
set_option maxRecDepth 20000 in
theorem ggL_law_X5_throwBall : GoodIn wsL_law wsX5_throwBall := goodIn_r _ [187, 82, 83, 49, 188, 189, 5, 190, 191, 192, 193, 88, 89, 90, 91, 194, 195, 196, 197, 198, 199, 200, 201, 202, 47, 48, 203, 161, 162, 163, 52, 204, 51, 205, 206, 207, 208, 209, 210, 211, 212, 213, 214, 215, 216, 217, 218, 150, 151, 152, 153, 154, 155, 219, 220, 221, 222, 54, 56, 55, 53, 223, 224, 225, 226, 227, 228, 229, 230, 231, 232, 233, 234, 235, 236, 237, 238, 239, 240, 241, 672, 673, 674, 675, 676, 677, 678, 679, 680, 681, 682, 683, 684, 685, 686] (by decide +kernel) (by decide +kernel)
set_option maxRecDepth 20000 in
theorem gL_law_X5_throwBall : GoodIn wsL_law (wsV RL 80 RX5 yX5_throwBall wsX5_throwBall) := goodIn_app (goodIn_of _ (by decide +kernel)) ggL_law_X5_throwBall
set_option maxRecDepth 20000 in
theorem ggL_law_L_replaceString : GoodIn wsL_law wsL_replaceString := goodIn_ca (goodIn_ca (goodIn_r _ [244, 99, 61, 245, 246, 247, 2, 248, 66, 67, 16, 249, 250, 251, 112, 113, 114, 115, 116, 252, 253, 254, 15, 255, 31, 256, 257, 258, 259, 29, 665, 666, 667, 668, 669, 670, 671, 687, 688, 689] (by decide +kernel) (by decide +kernel)) (goodIn_sub (fun _ h => List.mem_append_left _ (List.mem_append_left _ (List.mem_append_right _ h))) (by decide +kernel))) (goodIn_sub (fun _ h => List.mem_append_left _ (List.mem_append_right _ h)) (by decide +kernel))
set_option maxRecDepth 20000 in
theorem gL_law_L_replaceString : GoodIn wsL_law (va_wsS RL 81 yL_replaceString wsL_replaceString) := goodIn_app (goodIn_of _ (by decide +kernel)) ggL_law_L_replaceString
set_option maxRecDepth 20000 in
theorem ggL_law_X5_replaceString : GoodIn wsL_law wsX5_replaceString := goodIn_r _ [263, 82, 50, 48, 264, 265, 5, 266, 191, 192, 193, 88, 89, 90, 91, 672, 673, 674, 675, 676, 677, 678, 679, 680, 681, 682, 683, 684, 685, 686] (by decide +kernel) (by decide +kernel)
set_option maxRecDepth 20000 in
theorem gL_law_X5_replaceString : GoodIn wsL_law (wsV RL 84 RX5 yX5_replaceString wsX5_replaceString) := goodIn_app (goodIn_of _ (by decide +kernel)) ggL_law_X5_replaceString
set_option maxRecDepth 20000 in
theorem ggL_law_L_buyStrings : GoodIn wsL_law wsL_buyStrings := goodIn_ca (goodIn_r _ [269, 270, 271, 272, 273, 2, 274, 275, 276, 16, 277, 278, 279, 15, 280, 31, 252, 253, 254, 255, 665, 666, 667, 668, 669, 670, 671, 687, 688, 689] (by decide +kernel) (by decide +kernel)) (goodIn_sub (fun _ h => List.mem_append_right _ h) (by decide +kernel))
set_option maxRecDepth 20000 in
theorem gL_law_L_buyStrings : GoodIn wsL_law (va_wsS RL 85 yL_buyStrings wsL_buyStrings) := goodIn_app (goodIn_of _ (by decide +kernel)) ggL_law_L_buyStrings
set_option maxRecDepth 20000 in
theorem ggL_law_X5_buyStrings : GoodIn wsL_law wsX5_buyStrings := goodIn_r _ [284, 82, 50, 191, 192, 5, 193, 88, 89, 90, 91, 672, 673, 674, 675, 676, 677, 678, 679, 680, 681, 682, 683, 684, 685, 686] (by decide +kernel) (by decide +kernel)
set_option maxRecDepth 20000 in
theorem gL_law_X5_buyStrings : GoodIn wsL_law (wsV RL 87 RX5 yX5_buyStrings wsX5_buyStrings) := goodIn_app (goodIn_of _ (by decide +kernel)) ggL_law_X5_buyStrings
set_option maxRecDepth 20000 in
theorem ggL_law_X4_newGame : GoodIn wsL_law wsX4_newGame := goodIn_r _ [288, 22, 121, 104, 105, 20, 16, 289, 290, 291, 2, 292, 68, 293, 294, 295, 24, 296, 297, 298, 299, 300, 77, 40, 41, 42, 301, 232, 162, 233, 39, 302, 303, 304, 305, 306, 307, 308, 19, 309, 35, 176, 177, 178, 15, 179, 30, 180, 181, 182, 183, 29, 665, 666, 667, 668, 669, 670, 671, 691, 692, 693, 694, 695, 690, 687, 688, 689] (by decide +kernel) (by decide +kernel)
set_option maxRecDepth 20000 in
theorem gL_law_X4_newGame : GoodIn wsL_law (wsV RL 88 RX4 yX4_newGame wsX4_newGame) := goodIn_app (goodIn_of _ (by decide +kernel)) ggL_law_X4_newGame
set_option maxRecDepth 20000 in
theorem ggL_law_X5_newGame : GoodIn wsL_law wsX5_newGame := goodIn_r _ [313, 82, 49, 51, 54, 55, 53, 56, 204, 198, 205, 314, 315, 316, 5, 317, 83, 318, 319, 320, 321, 322, 323, 324, 325, 223, 224, 225, 226, 227, 228, 229, 230, 231, 232, 162, 233, 52, 234, 235, 236, 237, 47, 238, 239, 240, 241, 48, 672, 673, 674, 675, 676, 677, 678, 679, 680, 681, 682, 683, 684, 685, 686] (by decide +kernel) (by decide +kernel)
set_option maxRecDepth 20000 in
theorem gL_law_X5_newGame : GoodIn wsL_law (wsV RL 91 RX5 yX5_newGame wsX5_newGame) := goodIn_app (goodIn_of _ (by decide +kernel)) ggL_law_X5_newGame
set_option maxRecDepth 20000 in
theorem ggL_law_L_isStanding : GoodIn wsL_law wsL_isStanding := goodIn_ca (goodIn_r _ [328, 99, 329, 330, 331, 2, 332, 16, 249, 250, 251, 112, 113, 114, 115, 116, 164, 165, 166, 15, 167, 30, 333, 146, 136, 147, 665, 666, 667, 668, 669, 670, 671, 687, 688, 689] (by decide +kernel) (by decide +kernel)) (goodIn_sub (fun _ h => List.mem_append_left _ (List.mem_append_right _ h)) (by decide +kernel))
set_option maxRecDepth 20000 in
theorem gL_law_L_isStanding : GoodIn wsL_law (va_wsS RL 92 yL_isStanding wsL_isStanding) := goodIn_app (goodIn_of _ (by decide +kernel)) ggL_law_L_isStanding
set_option maxRecDepth 20000 in
theorem ggL_law_X5_isStanding : GoodIn wsL_law wsX5_isStanding := goodIn_r _ [337, 82, 47, 264, 265, 5, 266, 191, 192, 193, 338, 339, 340, 341, 672, 673, 674, 675, 676, 677, 678, 679, 680, 681, 682, 683, 684, 685, 686] (by decide +kernel) (by decide +kernel)
set_option maxRecDepth 20000 in
theorem gL_law_X5_isStanding : GoodIn wsL_law (wsV RL 94 RX5 yX5_isStanding wsX5_isStanding) := goodIn_app (goodIn_of _ (by decide +kernel)) ggL_law_X5_isStanding
set_option maxRecDepth 20000 in
theorem ggL_law_X4_standing : GoodIn wsL_law wsX4_standing := goodIn_r _ [345, 16, 164, 165, 166, 15, 167, 30, 346, 150, 151, 152, 153, 154, 155, 665, 666, 667, 668, 669, 670, 671, 687, 688, 689] (by decide +kernel) (by decide +kernel)
set_option maxRecDepth 20000 in
theorem gL_law_X4_standing : GoodIn wsL_law (wsV RL 95 RX4 yX4_standing wsX4_standing) := goodIn_app (goodIn_of _ (by decide +kernel)) ggL_law_X4_standing
set_option maxRecDepth 20000 in
theorem ggL_law_X5_standing : GoodIn wsL_law wsX5_standing := goodIn_r _ [350, 47, 218, 150, 151, 152, 153, 154, 155, 351, 352, 353, 5, 354, 82, 672, 673, 674, 675, 676, 677, 678, 679, 680, 681, 682, 683, 684, 685, 686] (by decide +kernel) (by decide +kernel)
set_option maxRecDepth 20000 in
theorem gL_law_X5_standing : GoodIn wsL_law (wsV RL 98 RX5 yX5_standing wsX5_standing) := goodIn_app (goodIn_of _ (by decide +kernel)) ggL_law_X5_standing
set_option maxRecDepth 20000 in
theorem ggL_law_L_wearOf : GoodIn wsL_law wsL_wearOf := goodIn_ca (goodIn_r _ [357, 99, 358, 359, 360, 2, 361, 16, 249, 250, 251, 112, 113, 114, 115, 116, 362, 363, 364, 15, 365, 29, 665, 666, 667, 668, 669, 670, 671, 687, 688, 689] (by decide +kernel) (by decide +kernel)) (goodIn_sub (fun _ h => List.mem_append_left _ (List.mem_append_right _ h)) (by decide +kernel))
set_option maxRecDepth 20000 in
theorem gL_law_L_wearOf : GoodIn wsL_law (va_wsS RL 99 yL_wearOf wsL_wearOf) := goodIn_app (goodIn_of _ (by decide +kernel)) ggL_law_L_wearOf
set_option maxRecDepth 20000 in
theorem ggL_law_X5_wearOf : GoodIn wsL_law wsX5_wearOf := goodIn_r _ [369, 82, 48, 264, 265, 5, 266, 191, 192, 193, 88, 89, 90, 91, 672, 673, 674, 675, 676, 677, 678, 679, 680, 681, 682, 683, 684, 685, 686] (by decide +kernel) (by decide +kernel)
set_option maxRecDepth 20000 in
theorem gL_law_X5_wearOf : GoodIn wsL_law (wsV RL 101 RX5 yX5_wearOf wsX5_wearOf) := goodIn_app (goodIn_of _ (by decide +kernel)) ggL_law_X5_wearOf
set_option maxRecDepth 20000 in
theorem ggL_law_L_isBroken : GoodIn wsL_law wsL_isBroken := goodIn_ca (goodIn_r _ [372, 99, 373, 374, 375, 2, 376, 16, 249, 250, 251, 112, 113, 114, 115, 116, 377, 181, 182, 15, 183, 29, 665, 666, 667, 668, 669, 670, 671, 687, 688, 689] (by decide +kernel) (by decide +kernel)) (goodIn_sub (fun _ h => List.mem_append_left _ (List.mem_append_right _ h)) (by decide +kernel))
set_option maxRecDepth 20000 in
theorem gL_law_L_isBroken : GoodIn wsL_law (va_wsS RL 102 yL_isBroken wsL_isBroken) := goodIn_app (goodIn_of _ (by decide +kernel)) ggL_law_L_isBroken
set_option maxRecDepth 20000 in
theorem ggL_law_X5_isBroken : GoodIn wsL_law wsX5_isBroken := goodIn_r _ [381, 82, 264, 265, 5, 266, 191, 192, 193, 238, 239, 240, 241, 48, 338, 339, 340, 341, 672, 673, 674, 675, 676, 677, 678, 679, 680, 681, 682, 683, 684, 685, 686] (by decide +kernel) (by decide +kernel)
set_option maxRecDepth 20000 in
theorem gL_law_X5_isBroken : GoodIn wsL_law (wsV RL 104 RX5 yX5_isBroken wsX5_isBroken) := goodIn_app (goodIn_of _ (by decide +kernel)) ggL_law_X5_isBroken
set_option maxRecDepth 20000 in
theorem ggL_law_X4_brokenStrings : GoodIn wsL_law wsX4_brokenStrings := goodIn_r _ [385, 16, 386, 387, 388, 15, 389, 180, 181, 182, 183, 29, 665, 666, 667, 668, 669, 670, 671, 687, 688, 689] (by decide +kernel) (by decide +kernel)
set_option maxRecDepth 20000 in
theorem gL_law_X4_brokenStrings : GoodIn wsL_law (wsV RL 105 RX4 yX4_brokenStrings wsX4_brokenStrings) := goodIn_app (goodIn_of _ (by decide +kernel)) ggL_law_X4_brokenStrings
set_option maxRecDepth 20000 in
theorem ggL_law_X5_brokenStrings : GoodIn wsL_law wsX5_brokenStrings := goodIn_r _ [393, 394, 395, 396, 5, 397, 238, 239, 240, 241, 48, 351, 352, 353, 354, 82, 672, 673, 674, 675, 676, 677, 678, 679, 680, 681, 682, 683, 684, 685, 686] (by decide +kernel) (by decide +kernel)
set_option maxRecDepth 20000 in
theorem gL_law_X5_brokenStrings : GoodIn wsL_law (wsV RL 108 RX5 yX5_brokenStrings wsX5_brokenStrings) := goodIn_app (goodIn_of _ (by decide +kernel)) ggL_law_X5_brokenStrings
set_option maxRecDepth 20000 in
theorem ggL_law_X4_mostWorn : GoodIn wsL_law wsX4_mostWorn := goodIn_r _ [401, 16, 402, 403, 404, 15, 405, 29, 180, 181, 182, 183, 665, 666, 667, 668, 669, 670, 671, 687, 688, 689] (by decide +kernel) (by decide +kernel)
set_option maxRecDepth 20000 in
theorem gL_law_X4_mostWorn : GoodIn wsL_law (wsV RL 109 RX4 yX4_mostWorn wsX4_mostWorn) := goodIn_app (goodIn_of _ (by decide +kernel)) ggL_law_X4_mostWorn
set_option maxRecDepth 20000 in
theorem ggL_law_X5_mostWorn : GoodIn wsL_law wsX5_mostWorn := goodIn_r _ [409, 82, 48, 238, 239, 240, 5, 241, 672, 673, 674, 675, 676, 677, 678, 679, 680, 681, 682, 683, 684, 685, 686] (by decide +kernel) (by decide +kernel)
set_option maxRecDepth 20000 in
theorem gL_law_X5_mostWorn : GoodIn wsL_law (wsV RL 112 RX5 yX5_mostWorn wsX5_mostWorn) := goodIn_app (goodIn_of _ (by decide +kernel)) ggL_law_X5_mostWorn
set_option maxRecDepth 20000 in
theorem ggL_law_X4_spareStrings : GoodIn wsL_law wsX4_spareStrings := goodIn_r _ [413, 16, 252, 253, 254, 15, 255, 31, 665, 666, 667, 668, 669, 670, 671, 687, 688, 689] (by decide +kernel) (by decide +kernel)
set_option maxRecDepth 20000 in
theorem gL_law_X4_spareStrings : GoodIn wsL_law (wsV RL 113 RX4 yX4_spareStrings wsX4_spareStrings) := goodIn_app (goodIn_of _ (by decide +kernel)) ggL_law_X4_spareStrings
set_option maxRecDepth 20000 in
theorem ggL_law_X5_spareStrings : GoodIn wsL_law wsX5_spareStrings := goodIn_r _ [417, 50, 351, 352, 353, 5, 354, 82, 672, 673, 674, 675, 676, 677, 678, 679, 680, 681, 682, 683, 684, 685, 686] (by decide +kernel) (by decide +kernel)
set_option maxRecDepth 20000 in
theorem gL_law_X5_spareStrings : GoodIn wsL_law (wsV RL 116 RX5 yX5_spareStrings wsX5_spareStrings) := goodIn_app (goodIn_of _ (by decide +kernel)) ggL_law_X5_spareStrings
set_option maxRecDepth 20000 in
theorem ggL_law_L_awayFor : GoodIn wsL_law wsL_awayFor := goodIn_ca (goodIn_r _ [420, 99, 421, 422, 423, 2, 424, 20, 109, 110, 111, 112, 113, 114, 115, 116, 126, 127, 128, 19, 129, 35, 665, 666, 667, 668, 669, 670, 671, 690] (by decide +kernel) (by decide +kernel)) (goodIn_sub (fun _ h => List.mem_append_left _ (List.mem_append_right _ h)) (by decide +kernel))
set_option maxRecDepth 20000 in
theorem gL_law_L_awayFor : GoodIn wsL_law (va_wsS RL 117 yL_awayFor wsL_awayFor) := goodIn_app (goodIn_of _ (by decide +kernel)) ggL_law_L_awayFor
set_option maxRecDepth 20000 in
theorem ggL_law_X5_awayFor : GoodIn wsL_law wsX5_awayFor := goodIn_r _ [428, 82, 49, 191, 192, 5, 193, 88, 89, 90, 91, 672, 673, 674, 675, 676, 677, 678, 679, 680, 681, 682, 683, 684, 685, 686] (by decide +kernel) (by decide +kernel)
set_option maxRecDepth 20000 in
theorem gL_law_X5_awayFor : GoodIn wsL_law (wsV RL 119 RX5 yX5_awayFor wsX5_awayFor) := goodIn_app (goodIn_of _ (by decide +kernel)) ggL_law_X5_awayFor
set_option maxRecDepth 20000 in
theorem ggL_law_X4_players : GoodIn wsL_law wsX4_players := goodIn_r _ [432, 68, 665, 666, 667, 668, 669, 670, 671] (by decide +kernel) (by decide +kernel)
set_option maxRecDepth 20000 in
theorem gL_law_X4_players : GoodIn wsL_law (wsV RL 120 RX4 yX4_players wsX4_players) := goodIn_app (goodIn_of _ (by decide +kernel)) ggL_law_X4_players
set_option maxRecDepth 20000 in
theorem ggL_law_X5_players : GoodIn wsL_law wsX5_players := goodIn_r _ [436, 83, 351, 352, 353, 5, 354, 82, 672, 673, 674, 675, 676, 677, 678, 679, 680, 681, 682, 683, 684, 685, 686] (by decide +kernel) (by decide +kernel)
set_option maxRecDepth 20000 in
theorem gL_law_X5_players : GoodIn wsL_law (wsV RL 123 RX5 yX5_players wsX5_players) := goodIn_app (goodIn_of _ (by decide +kernel)) ggL_law_X5_players
set_option maxRecDepth 20000 in
theorem ggL_law_X4_playerInTurn : GoodIn wsL_law wsX4_playerInTurn := goodIn_r _ [120, 68, 121, 122, 123, 124, 2, 125, 104, 665, 666, 667, 668, 669, 670, 671] (by decide +kernel) (by decide +kernel)
set_option maxRecDepth 20000 in
theorem gL_law_X4_playerInTurn : GoodIn wsL_law (wsV RL 124 RX4 yX4_playerInTurn wsX4_playerInTurn) := goodIn_app (goodIn_of _ (by decide +kernel)) ggL_law_X4_playerInTurn
set_option maxRecDepth 20000 in
theorem ggL_law_X5_playerInTurn : GoodIn wsL_law wsX5_playerInTurn := goodIn_r _ [441, 442, 443, 444, 5, 445, 83, 204, 194, 195, 196, 197, 198, 351, 352, 353, 354, 82, 672, 673, 674, 675, 676, 677, 678, 679, 680, 681, 682, 683, 684, 685, 686] (by decide +kernel) (by decide +kernel)
set_option maxRecDepth 20000 in
theorem gL_law_X5_playerInTurn : GoodIn wsL_law (wsV RL 127 RX5 yX5_playerInTurn wsX5_playerInTurn) := goodIn_app (goodIn_of _ (by decide +kernel)) ggL_law_X5_playerInTurn
set_option maxRecDepth 20000 in
theorem ggL_law_X4_frame : GoodIn wsL_law wsX4_frame := goodIn_r _ [449, 104, 665, 666, 667, 668, 669, 670, 671] (by decide +kernel) (by decide +kernel)
set_option maxRecDepth 20000 in
theorem gL_law_X4_frame : GoodIn wsL_law (wsV RL 128 RX4 yX4_frame wsX4_frame) := goodIn_app (goodIn_of _ (by decide +kernel)) ggL_law_X4_frame
set_option maxRecDepth 20000 in
theorem ggL_law_X5_frame : GoodIn wsL_law wsX5_frame := goodIn_r _ [453, 198, 351, 352, 353, 5, 354, 82, 672, 673, 674, 675, 676, 677, 678, 679, 680, 681, 682, 683, 684, 685, 686] (by decide +kernel) (by decide +kernel)
set_option maxRecDepth 20000 in
theorem gL_law_X5_frame : GoodIn wsL_law (wsV RL 131 RX5 yX5_frame wsX5_frame) := goodIn_app (goodIn_of _ (by decide +kernel)) ggL_law_X5_frame
set_option maxRecDepth 20000 in
theorem ggL_law_X4_throwsInFrame : GoodIn wsL_law wsX4_throwsInFrame := goodIn_r _ [457, 105, 665, 666, 667, 668, 669, 670, 671] (by decide +kernel) (by decide +kernel)
set_option maxRecDepth 20000 in
theorem gL_law_X4_throwsInFrame : GoodIn wsL_law (wsV RL 132 RX4 yX4_throwsInFrame wsX4_throwsInFrame) := goodIn_app (goodIn_of _ (by decide +kernel)) ggL_law_X4_throwsInFrame
set_option maxRecDepth 20000 in
theorem ggL_law_X5_throwsInFrame : GoodIn wsL_law wsX5_throwsInFrame := goodIn_r _ [461, 205, 351, 352, 353, 5, 354, 82, 672, 673, 674, 675, 676, 677, 678, 679, 680, 681, 682, 683, 684, 685, 686] (by decide +kernel) (by decide +kernel)
set_option maxRecDepth 20000 in
theorem gL_law_X5_throwsInFrame : GoodIn wsL_law (wsV RL 135 RX5 yX5_throwsInFrame wsX5_throwsInFrame) := goodIn_app (goodIn_of _ (by decide +kernel)) ggL_law_X5_throwsInFrame
set_option maxRecDepth 20000 in
theorem ggL_law_X4_isOver : GoodIn wsL_law wsX4_isOver := goodIn_r _ [125, 104, 665, 666, 667, 668, 669, 670, 671] (by decide +kernel) (by decide +kernel)
set_option maxRecDepth 20000 in
theorem gL_law_X4_isOver : GoodIn wsL_law (wsV RL 136 RX4 yX4_isOver wsX4_isOver) := goodIn_app (goodIn_of _ (by decide +kernel)) ggL_law_X4_isOver
set_option maxRecDepth 20000 in
theorem ggL_law_X5_isOver : GoodIn wsL_law wsX5_isOver := goodIn_r _ [466, 82, 194, 195, 196, 5, 197, 198, 672, 673, 674, 675, 676, 677, 678, 679, 680, 681, 682, 683, 684, 685, 686] (by decide +kernel) (by decide +kernel)
set_option maxRecDepth 20000 in
theorem gL_law_X5_isOver : GoodIn wsL_law (wsV RL 140 RX5 yX5_isOver wsX5_isOver) := goodIn_app (goodIn_of _ (by decide +kernel)) ggL_law_X5_isOver
set_option maxRecDepth 20000 in
theorem ggL_law_L_throwsOf : GoodIn wsL_law wsL_throwsOf := goodIn_ca (goodIn_r _ [469, 99, 470, 471, 472, 2, 473, 22, 474, 475, 476, 477, 68, 112, 113, 114, 115, 116, 73, 74, 75, 24, 76, 77, 665, 666, 667, 668, 669, 670, 671, 691, 692, 693, 694, 695] (by decide +kernel) (by decide +kernel)) (goodIn_sub (fun _ h => List.mem_append_left _ (List.mem_append_right _ h)) (by decide +kernel))
set_option maxRecDepth 20000 in
theorem gL_law_L_throwsOf : GoodIn wsL_law (va_wsS RL 141 yL_throwsOf wsL_throwsOf) := goodIn_app (goodIn_of _ (by decide +kernel)) ggL_law_L_throwsOf
set_option maxRecDepth 20000 in
theorem ggL_law_X5_throwsOf : GoodIn wsL_law wsX5_throwsOf := goodIn_r _ [481, 51, 482, 483, 484, 5, 485, 82, 486, 487, 488, 489, 83, 191, 192, 193, 88, 89, 90, 91, 672, 673, 674, 675, 676, 677, 678, 679, 680, 681, 682, 683, 684, 685, 686] (by decide +kernel) (by decide +kernel)
set_option maxRecDepth 20000 in
theorem gL_law_X5_throwsOf : GoodIn wsL_law (wsV RL 143 RX5 yX5_throwsOf wsX5_throwsOf) := goodIn_app (goodIn_of _ (by decide +kernel)) ggL_law_X5_throwsOf
set_option maxRecDepth 20000 in
theorem ggL_law_L_scoreOf : GoodIn wsL_law wsL_scoreOf := goodIn_ca (goodIn_r _ [492, 99, 493, 494, 495, 2, 496, 22, 474, 475, 476, 477, 68, 112, 113, 114, 115, 116, 293, 294, 295, 24, 296, 297, 298, 299, 300, 77, 40, 41, 42, 301, 232, 162, 233, 39, 665, 666, 667, 668, 669, 670, 671, 691, 692, 693, 694, 695] (by decide +kernel) (by decide +kernel)) (goodIn_sub (fun _ h => List.mem_append_left _ (List.mem_append_right _ h)) (by decide +kernel))
set_option maxRecDepth 20000 in
theorem gL_law_L_scoreOf : GoodIn wsL_law (va_wsS RL 144 yL_scoreOf wsL_scoreOf) := goodIn_app (goodIn_of _ (by decide +kernel)) ggL_law_L_scoreOf
set_option maxRecDepth 20000 in
theorem ggL_law_X5_scoreOf : GoodIn wsL_law wsX5_scoreOf := goodIn_r _ [500, 82, 486, 487, 488, 5, 489, 83, 191, 192, 193, 318, 319, 320, 321, 322, 323, 324, 325, 198, 204, 51, 56, 223, 224, 225, 226, 53, 227, 228, 229, 230, 231, 232, 162, 233, 52, 88, 89, 90, 91, 672, 673, 674, 675, 676, 677, 678, 679, 680, 681, 682, 683, 684, 685, 686] (by decide +kernel) (by decide +kernel)
set_option maxRecDepth 20000 in
theorem gL_law_X5_scoreOf : GoodIn wsL_law (wsV RL 146 RX5 yX5_scoreOf wsX5_scoreOf) := goodIn_app (goodIn_of _ (by decide +kernel)) ggL_law_X5_scoreOf
set_option maxRecDepth 20000 in
theorem ggL_law_L_pointsOf : GoodIn wsL_law wsL_pointsOf := goodIn_ca (goodIn_r _ [503, 99, 504, 505, 506, 2, 507, 22, 474, 475, 476, 477, 68, 112, 113, 114, 115, 116, 508, 298, 299, 24, 300, 77, 40, 41, 42, 301, 232, 162, 233, 39, 665, 666, 667, 668, 669, 670, 671, 691, 692, 693, 694, 695] (by decide +kernel) (by decide +kernel)) (goodIn_sub (fun _ h => List.mem_append_left _ (List.mem_append_right _ h)) (by decide +kernel))
set_option maxRecDepth 20000 in
theorem gL_law_L_pointsOf : GoodIn wsL_law (va_wsS RL 147 yL_pointsOf wsL_pointsOf) := goodIn_app (goodIn_of _ (by decide +kernel)) ggL_law_L_pointsOf
set_option maxRecDepth 20000 in
theorem ggL_law_X5_pointsOf : GoodIn wsL_law wsX5_pointsOf := goodIn_r _ [512, 82, 486, 487, 488, 5, 489, 83, 191, 192, 193, 322, 323, 324, 325, 198, 204, 51, 56, 223, 224, 225, 226, 53, 227, 228, 229, 230, 231, 232, 162, 233, 52, 88, 89, 90, 91, 672, 673, 674, 675, 676, 677, 678, 679, 680, 681, 682, 683, 684, 685, 686] (by decide +kernel) (by decide +kernel)
set_option maxRecDepth 20000 in
theorem gL_law_X5_pointsOf : GoodIn wsL_law (wsV RL 149 RX5 yX5_pointsOf wsX5_pointsOf) := goodIn_app (goodIn_of _ (by decide +kernel)) ggL_law_X5_pointsOf
set_option maxRecDepth 20000 in
theorem ggL_law_L_strikesOf : GoodIn wsL_law wsL_strikesOf := goodIn_ca (goodIn_r _ [515, 99, 516, 517, 518, 2, 519, 22, 474, 475, 476, 477, 68, 112, 113, 114, 115, 116, 520, 521, 522, 24, 523, 524, 525, 526, 527, 42, 665, 666, 667, 668, 669, 670, 671, 691, 692, 693, 694, 695] (by decide +kernel) (by decide +kernel)) (goodIn_sub (fun _ h => List.mem_append_left _ (List.mem_append_right _ h)) (by decide +kernel))
set_option maxRecDepth 20000 in
theorem gL_law_L_strikesOf : GoodIn wsL_law (va_wsS RL 150 yL_strikesOf wsL_strikesOf) := goodIn_app (goodIn_of _ (by decide +kernel)) ggL_law_L_strikesOf
set_option maxRecDepth 20000 in
theorem ggL_law_X5_strikesOf : GoodIn wsL_law wsX5_strikesOf := goodIn_r _ [531, 54, 482, 483, 484, 5, 485, 82, 486, 487, 488, 489, 83, 191, 192, 193, 88, 89, 90, 91, 672, 673, 674, 675, 676, 677, 678, 679, 680, 681, 682, 683, 684, 685, 686] (by decide +kernel) (by decide +kernel)
set_option maxRecDepth 20000 in
theorem gL_law_X5_strikesOf : GoodIn wsL_law (wsV RL 152 RX5 yX5_strikesOf wsX5_strikesOf) := goodIn_app (goodIn_of _ (by decide +kernel)) ggL_law_X5_strikesOf
set_option maxRecDepth 20000 in
theorem ggL_law_L_sparesOf : GoodIn wsL_law wsL_sparesOf := goodIn_ca (goodIn_r _ [534, 99, 535, 536, 537, 2, 538, 22, 474, 475, 476, 477, 68, 112, 113, 114, 115, 116, 539, 540, 541, 24, 542, 524, 525, 526, 527, 42, 665, 666, 667, 668, 669, 670, 671, 691, 692, 693, 694, 695] (by decide +kernel) (by decide +kernel)) (goodIn_sub (fun _ h => List.mem_append_left _ (List.mem_append_right _ h)) (by decide +kernel))
set_option maxRecDepth 20000 in
theorem gL_law_L_sparesOf : GoodIn wsL_law (va_wsS RL 153 yL_sparesOf wsL_sparesOf) := goodIn_app (goodIn_of _ (by decide +kernel)) ggL_law_L_sparesOf
set_option maxRecDepth 20000 in
theorem ggL_law_X5_sparesOf : GoodIn wsL_law wsX5_sparesOf := goodIn_r _ [546, 55, 482, 483, 484, 5, 485, 82, 486, 487, 488, 489, 83, 191, 192, 193, 88, 89, 90, 91, 672, 673, 674, 675, 676, 677, 678, 679, 680, 681, 682, 683, 684, 685, 686] (by decide +kernel) (by decide +kernel)
set_option maxRecDepth 20000 in
theorem gL_law_X5_sparesOf : GoodIn wsL_law (wsV RL 155 RX5 yX5_sparesOf wsX5_sparesOf) := goodIn_app (goodIn_of _ (by decide +kernel)) ggL_law_X5_sparesOf
set_option maxRecDepth 20000 in
theorem ggL_law_X4_leader : GoodIn wsL_law wsX4_leader := goodIn_r _ [292, 68, 22, 293, 294, 295, 24, 296, 297, 298, 299, 300, 77, 40, 41, 42, 301, 232, 162, 233, 39, 665, 666, 667, 668, 669, 670, 671, 691, 692, 693, 694, 695] (by decide +kernel) (by decide +kernel)
set_option maxRecDepth 20000 in
theorem gL_law_X4_leader : GoodIn wsL_law (wsV RL 156 RX4 yX4_leader wsX4_leader) := goodIn_app (goodIn_of _ (by decide +kernel)) ggL_law_X4_leader
set_option maxRecDepth 20000 in
theorem ggL_law_X5_leader : GoodIn wsL_law wsX5_leader := goodIn_r _ [551, 314, 315, 316, 5, 317, 83, 318, 319, 320, 321, 322, 323, 324, 325, 198, 204, 51, 56, 223, 224, 225, 226, 53, 227, 228, 229, 230, 231, 232, 162, 233, 52, 351, 352, 353, 354, 82, 672, 673, 674, 675, 676, 677, 678, 679, 680, 681, 682, 683, 684, 685, 686] (by decide +kernel) (by decide +kernel)
set_option maxRecDepth 20000 in
theorem gL_law_X5_leader : GoodIn wsL_law (wsV RL 159 RX5 yX5_leader wsX5_leader) := goodIn_app (goodIn_of _ (by decide +kernel)) ggL_law_X5_leader
set_option maxRecDepth 20000 in
theorem ggL_law_L_wouldFall : GoodIn wsL_law wsL_wouldFall := goodIn_ca (goodIn_r _ [554, 99, 555, 556, 557, 2, 558, 16, 106, 107, 108, 109, 110, 111, 112, 113, 114, 115, 116, 164, 165, 166, 15, 167, 30, 559, 135, 136, 137, 138, 139, 140, 141, 142, 143, 144, 145, 146, 147, 346, 150, 151, 152, 153, 154, 155, 665, 666, 667, 668, 669, 670, 671, 687, 688, 689] (by decide +kernel) (by decide +kernel)) (goodIn_sub (fun _ h => List.mem_append_left _ (List.mem_append_right _ h)) (by decide +kernel))
set_option maxRecDepth 20000 in
theorem gL_law_L_wouldFall : GoodIn wsL_law (va_wsS RL 160 yL_wouldFall wsL_wouldFall) := goodIn_app (goodIn_of _ (by decide +kernel)) ggL_law_L_wouldFall
set_option maxRecDepth 20000 in
theorem ggL_law_X5_wouldFall : GoodIn wsL_law wsX5_wouldFall := goodIn_r _ [563, 82, 47, 188, 189, 5, 190, 191, 192, 193, 206, 207, 208, 209, 210, 211, 212, 213, 214, 215, 216, 217, 218, 150, 151, 152, 153, 154, 155, 88, 89, 90, 91, 672, 673, 674, 675, 676, 677, 678, 679, 680, 681, 682, 683, 684, 685, 686] (by decide +kernel) (by decide +kernel)
set_option maxRecDepth 20000 in
theorem gL_law_X5_wouldFall : GoodIn wsL_law (wsV RL 162 RX5 yX5_wouldFall wsX5_wouldFall) := goodIn_app (goodIn_of _ (by decide +kernel)) ggL_law_X5_wouldFall
set_option maxRecDepth 20000 in
theorem ggL_law_L_lastToFall : GoodIn wsL_law wsL_lastToFall := goodIn_ca (goodIn_r _ [566, 99, 567, 568, 569, 2, 570, 16, 106, 107, 108, 109, 110, 111, 112, 113, 114, 115, 116, 164, 165, 166, 15, 167, 30, 559, 135, 136, 137, 138, 139, 140, 141, 142, 143, 144, 145, 146, 147, 571, 572, 573, 665, 666, 667, 668, 669, 670, 671, 687, 688, 689] (by decide +kernel) (by decide +kernel)) (goodIn_sub (fun _ h => List.mem_append_left _ (List.mem_append_right _ h)) (by decide +kernel))
set_option maxRecDepth 20000 in
theorem gL_law_L_lastToFall : GoodIn wsL_law (va_wsS RL 163 yL_lastToFall wsL_lastToFall) := goodIn_app (goodIn_of _ (by decide +kernel)) ggL_law_L_lastToFall
set_option maxRecDepth 20000 in
theorem ggL_law_X5_lastToFall : GoodIn wsL_law wsX5_lastToFall := goodIn_r _ [577, 82, 47, 188, 189, 5, 190, 191, 192, 193, 88, 89, 90, 91, 206, 207, 208, 209, 210, 211, 212, 213, 214, 215, 216, 217, 578, 579, 151, 580, 581, 672, 673, 674, 675, 676, 677, 678, 679, 680, 681, 682, 683, 684, 685, 686] (by decide +kernel) (by decide +kernel)
set_option maxRecDepth 20000 in
theorem gL_law_X5_lastToFall : GoodIn wsL_law (wsV RL 165 RX5 yX5_lastToFall wsX5_lastToFall) := goodIn_app (goodIn_of _ (by decide +kernel)) ggL_law_X5_lastToFall
set_option maxRecDepth 20000 in
theorem ggL_law_X4_bestThrow : GoodIn wsL_law wsX4_bestThrow := goodIn_r _ [585, 20, 16, 126, 127, 128, 19, 129, 35, 164, 165, 166, 15, 167, 30, 559, 135, 136, 137, 138, 139, 140, 141, 142, 143, 144, 145, 146, 147, 346, 150, 151, 152, 153, 154, 155, 665, 666, 667, 668, 669, 670, 671, 690, 687, 688, 689] (by decide +kernel) (by decide +kernel)
set_option maxRecDepth 20000 in
theorem gL_law_X4_bestThrow : GoodIn wsL_law (wsV RL 166 RX4 yX4_bestThrow wsX4_bestThrow) := goodIn_app (goodIn_of _ (by decide +kernel)) ggL_law_X4_bestThrow
set_option maxRecDepth 20000 in
theorem ggL_law_X5_bestThrow : GoodIn wsL_law wsX5_bestThrow := goodIn_r _ [589, 590, 591, 592, 5, 593, 49, 47, 206, 207, 208, 209, 210, 211, 212, 191, 192, 193, 213, 214, 215, 216, 217, 218, 150, 151, 152, 153, 154, 155, 351, 352, 353, 354, 82, 672, 673, 674, 675, 676, 677, 678, 679, 680, 681, 682, 683, 684, 685, 686] (by decide +kernel) (by decide +kernel)
set_option maxRecDepth 20000 in
theorem gL_law_X5_bestThrow : GoodIn wsL_law (wsV RL 169 RX5 yX5_bestThrow wsX5_bestThrow) := goodIn_app (goodIn_of _ (by decide +kernel)) ggL_law_X5_bestThrow
set_option maxRecDepth 20000 in
theorem ggL_law_X4_throwsToClear : GoodIn wsL_law wsX4_throwsToClear := goodIn_r _ [597, 16, 164, 165, 166, 15, 167, 30, 598, 136, 599, 145, 146, 147, 600, 135, 137, 138, 139, 140, 141, 142, 143, 144, 601, 665, 666, 667, 668, 669, 670, 671, 687, 688, 689] (by decide +kernel) (by decide +kernel)
set_option maxRecDepth 20000 in
theorem gL_law_X4_throwsToClear : GoodIn wsL_law (wsV RL 170 RX4 yX4_throwsToClear wsX4_throwsToClear) := goodIn_app (goodIn_of _ (by decide +kernel)) ggL_law_X4_throwsToClear
set_option maxRecDepth 20000 in
theorem ggL_law_X5_throwsToClear : GoodIn wsL_law wsX5_throwsToClear := goodIn_r _ [605, 606, 607, 608, 5, 609, 47, 610, 611, 612, 206, 207, 208, 209, 210, 211, 212, 191, 192, 193, 213, 214, 215, 216, 217, 351, 352, 353, 354, 82, 672, 673, 674, 675, 676, 677, 678, 679, 680, 681, 682, 683, 684, 685, 686] (by decide +kernel) (by decide +kernel)
set_option maxRecDepth 20000 in
theorem gL_law_X5_throwsToClear : GoodIn wsL_law (wsV RL 173 RX5 yX5_throwsToClear wsX5_throwsToClear) := goodIn_app (goodIn_of _ (by decide +kernel)) ggL_law_X5_throwsToClear
set_option maxRecDepth 20000 in
theorem ggL_law_X4_wouldBreak : GoodIn wsL_law wsX4_wouldBreak := goodIn_r _ [616, 16, 617, 618, 619, 15, 620, 30, 29, 148, 146, 136, 147, 665, 666, 667, 668, 669, 670, 671, 687, 688, 689] (by decide +kernel) (by decide +kernel)
set_option maxRecDepth 20000 in
theorem gL_law_X4_wouldBreak : GoodIn wsL_law (wsV RL 174 RX4 yX4_wouldBreak wsX4_wouldBreak) := goodIn_app (goodIn_of _ (by decide +kernel)) ggL_law_X4_wouldBreak
set_option maxRecDepth 20000 in
theorem ggL_law_X5_wouldBreak : GoodIn wsL_law wsX5_wouldBreak := goodIn_r _ [624, 82, 48, 47, 672, 673, 674, 675, 676, 677, 678, 679, 680, 681, 682, 683, 684, 685, 686] (by decide +kernel) (by decide +kernel)
set_option maxRecDepth 20000 in
theorem gL_law_X5_wouldBreak : GoodIn wsL_law (wsV RL 177 RX5 yX5_wouldBreak wsX5_wouldBreak) := goodIn_app (goodIn_of _ (by decide +kernel)) ggL_law_X5_wouldBreak
set_option maxRecDepth 20000 in
theorem ggL_law_X4_meanScore : GoodIn wsL_law wsX4_meanScore := goodIn_r _ [628, 68, 22, 293, 294, 295, 24, 296, 297, 298, 299, 300, 77, 40, 41, 42, 301, 232, 162, 233, 39, 665, 666, 667, 668, 669, 670, 671, 691, 692, 693, 694, 695] (by decide +kernel) (by decide +kernel)
set_option maxRecDepth 20000 in
theorem gL_law_X4_meanScore : GoodIn wsL_law (wsV RL 178 RX4 yX4_meanScore wsX4_meanScore) := goodIn_app (goodIn_of _ (by decide +kernel)) ggL_law_X4_meanScore
set_option maxRecDepth 20000 in
theorem ggL_law_X5_meanScore : GoodIn wsL_law wsX5_meanScore := goodIn_r _ [632, 82, 83, 318, 319, 320, 5, 321, 322, 323, 324, 325, 198, 204, 51, 56, 223, 224, 225, 226, 53, 227, 228, 229, 230, 231, 232, 162, 233, 52, 672, 673, 674, 675, 676, 677, 678, 679, 680, 681, 682, 683, 684, 685, 686] (by decide +kernel) (by decide +kernel)
set_option maxRecDepth 20000 in
theorem gL_law_X5_meanScore : GoodIn wsL_law (wsV RL 182 RX5 yX5_meanScore wsX5_meanScore) := goodIn_app (goodIn_of _ (by decide +kernel)) ggL_law_X5_meanScore
set_option maxRecDepth 20000 in
theorem ggL_law_X4_digest : GoodIn wsL_law wsX4_digest := goodIn_r _ [636, 637, 638, 68, 104, 105, 16, 20, 22, 117, 118, 119, 2, 120, 121, 122, 123, 124, 125, 252, 253, 254, 15, 255, 31, 639, 583, 584, 585, 126, 127, 128, 19, 129, 35, 164, 165, 166, 167, 30, 559, 135, 136, 137, 138, 139, 140, 141, 142, 143, 144, 145, 146, 147, 346, 150, 151, 152, 153, 154, 155, 640, 595, 596, 597, 598, 599, 600, 601, 641, 642, 643, 644, 645, 29, 148, 646, 647, 648, 649, 650, 651, 652, 653, 24, 654, 655, 77, 656, 294, 295, 296, 297, 298, 299, 300, 40, 41, 42, 301, 232, 162, 233, 39, 657, 521, 522, 523, 524, 525, 526, 527, 658, 540, 541, 542, 665, 666, 667, 668, 669, 670, 671, 687, 688, 689, 690, 691, 692, 693, 694, 695] (by decide +kernel) (by decide +kernel)
set_option maxRecDepth 20000 in
theorem gL_law_X4_digest : GoodIn wsL_law (wsV RL 183 RX4 yX4_digest wsX4_digest) := goodIn_app (goodIn_of _ (by decide +kernel)) ggL_law_X4_digest
set_option maxRecDepth 20000 in
theorem ggL_law_X5_digest : GoodIn wsL_law wsX5_digest := goodIn_r _ [662, 82, 28, 83, 198, 205, 50, 663, 664, 47, 48, 49, 51, 54, 55, 442, 443, 444, 5, 445, 204, 194, 195, 196, 197, 590, 591, 592, 593, 206, 207, 208, 209, 210, 211, 212, 191, 192, 193, 213, 214, 215, 216, 217, 218, 150, 151, 152, 153, 154, 155, 606, 607, 608, 609, 610, 611, 612, 318, 319, 320, 321, 322, 323, 324, 325, 56, 223, 224, 225, 226, 53, 227, 228, 229, 230, 231, 232, 162, 233, 52, 672, 673, 674, 675, 676, 677, 678, 679, 680, 681, 682, 683, 684, 685, 686] (by decide +kernel) (by decide +kernel)
set_option maxRecDepth 20000 in
theorem gL_law_X5_digest : GoodIn wsL_law (wsV RL 187 RX5 yX5_digest wsX5_digest) := goodIn_app (goodIn_of _ (by decide +kernel)) ggL_law_X5_digest
theorem dL_law_0 : decode cL_law 0 = .ok (.new 8, 3) := by decide +kernel
theorem dL_law_3 : decode cL_law 3 = .ok (.dup, 1) := by decide +kernel
theorem dL_law_4 : decode cL_law 4 = .ok (.invokespecial 64, 3) := by decide +kernel
theorem dL_law_7 : decode cL_law 7 = .ok (.astore_n 1, 1) := by decide +kernel
theorem dL_law_8 : decode cL_law 8 = .ok (.new 65, 3) := by decide +kernel
theorem dL_law_11 : decode cL_law 11 = .ok (.dup, 1) := by decide +kernel
theorem dL_law_12 : decode cL_law 12 = .ok (.invokespecial 67, 3) := by decide +kernel
theorem dL_law_15 : decode cL_law 15 = .ok (.astore_n 2, 1) := by decide +kernel
theorem dL_law_16 : decode cL_law 16 = .ok (.iconst 1, 1) := by decide +kernel
theorem dL_law_17 : decode cL_law 17 = .ok (.newarray .long, 2) := by decide +kernel
theorem dL_law_19 : decode cL_law 19 = .ok (.astore_n 3, 1) := by decide +kernel
theorem dL_law_20 : decode cL_law 20 = .ok (.iconst 0, 1) := by decide +kernel
theorem dL_law_21 : decode cL_law 21 = .ok (.istore 4, 2) := by decide +kernel
theorem dL_law_23 : decode cL_law 23 = .ok (.iload 4, 2) := by decide +kernel
theorem dL_law_25 : decode cL_law 25 = .ok (.aload_n 0, 1) := by decide +kernel
theorem dL_law_26 : decode cL_law 26 = .ok (.arraylength, 1) := by decide +kernel
theorem dL_law_27 : decode cL_law 27 = .ok (.iconst 3, 1) := by decide +kernel
theorem dL_law_28 : decode cL_law 28 = .ok (.isub, 1) := by decide +kernel
theorem dL_law_29 : decode cL_law 29 = .ok (.if_icmp .gt 1280, 3) := by decide +kernel
theorem dL_law_32 : decode cL_law 32 = .ok (.aload_n 0, 1) := by decide +kernel
theorem dL_law_33 : decode cL_law 33 = .ok (.iload 4, 2) := by decide +kernel
theorem dL_law_35 : decode cL_law 35 = .ok (.iaload, 1) := by decide +kernel
theorem dL_law_36 : decode cL_law 36 = .ok (.bipush 31, 2) := by decide +kernel
theorem dL_law_38 : decode cL_law 38 = .ok (.iand, 1) := by decide +kernel
theorem dL_law_39 : decode cL_law 39 = .ok (.tableswitch 1264 0 30 #[137, 181, 249, 305, 361, 374, 437, 450, 506, 569, 582, 595, 608, 664, 677, 690, 703, 716, 729, 785, 841, 909, 965, 1021, 1034, 1102, 1170, 1183, 1196, 1209, 1250], 137) := by decide +kernel
theorem dL_law_176 : decode cL_law 176 = .ok (.aload_n 1, 1) := by decide +kernel
theorem dL_law_177 : decode cL_law 177 = .ok (.aload_n 3, 1) := by decide +kernel
theorem dL_law_178 : decode cL_law 178 = .ok (.invokestatic 68, 3) := by decide +kernel
theorem dL_law_181 : decode cL_law 181 = .ok (.istore 5, 2) := by decide +kernel
theorem dL_law_183 : decode cL_law 183 = .ok (.aload_n 2, 1) := by decide +kernel
theorem dL_law_184 : decode cL_law 184 = .ok (.invokevirtual 73, 3) := by decide +kernel
theorem dL_law_187 : decode cL_law 187 = .ok (.istore 6, 2) := by decide +kernel
theorem dL_law_189 : decode cL_law 189 = .ok (.aload_n 2, 1) := by decide +kernel
theorem dL_law_190 : decode cL_law 190 = .ok (.invokevirtual 74, 3) := by decide +kernel
theorem dL_law_193 : decode cL_law 193 = .ok (.iload 5, 2) := by decide +kernel
theorem dL_law_195 : decode cL_law 195 = .ok (.if_icmp .eq 5, 3) := by decide +kernel
theorem dL_law_198 : decode cL_law 198 = .ok (.iconst 0, 1) := by decide +kernel
theorem dL_law_199 : decode cL_law 199 = .ok (.ireturn, 1) := by decide +kernel
theorem dL_law_200 : decode cL_law 200 = .ok (.iload 5, 2) := by decide +kernel
theorem dL_law_202 : decode cL_law 202 = .ok (.ifCond .ne 15, 3) := by decide +kernel
theorem dL_law_205 : decode cL_law 205 = .ok (.aload_n 3, 1) := by decide +kernel
theorem dL_law_206 : decode cL_law 206 = .ok (.iconst 0, 1) := by decide +kernel
theorem dL_law_207 : decode cL_law 207 = .ok (.laload, 1) := by decide +kernel
theorem dL_law_208 : decode cL_law 208 = .ok (.iload 6, 2) := by decide +kernel
theorem dL_law_210 : decode cL_law 210 = .ok (.i2l, 1) := by decide +kernel
theorem dL_law_211 : decode cL_law 211 = .ok (.lcmp, 1) := by decide +kernel
theorem dL_law_212 : decode cL_law 212 = .ok (.ifCond .eq 5, 3) := by decide +kernel
theorem dL_law_215 : decode cL_law 215 = .ok (.iconst 0, 1) := by decide +kernel
theorem dL_law_216 : decode cL_law 216 = .ok (.ireturn, 1) := by decide +kernel
theorem dL_law_217 : decode cL_law 217 = .ok (.goto 1086, 3) := by decide +kernel
theorem dL_law_220 : decode cL_law 220 = .ok (.aload_n 1, 1) := by decide +kernel
theorem dL_law_221 : decode cL_law 221 = .ok (.aload_n 0, 1) := by decide +kernel
theorem dL_law_222 : decode cL_law 222 = .ok (.iload 4, 2) := by decide +kernel
theorem dL_law_224 : decode cL_law 224 = .ok (.iconst 1, 1) := by decide +kernel
theorem dL_law_225 : decode cL_law 225 = .ok (.iadd, 1) := by decide +kernel
theorem dL_law_226 : decode cL_law 226 = .ok (.iaload, 1) := by decide +kernel
theorem dL_law_227 : decode cL_law 227 = .ok (.aload_n 0, 1) := by decide +kernel
theorem dL_law_228 : decode cL_law 228 = .ok (.iload 4, 2) := by decide +kernel
theorem dL_law_230 : decode cL_law 230 = .ok (.iconst 2, 1) := by decide +kernel
theorem dL_law_231 : decode cL_law 231 = .ok (.iadd, 1) := by decide +kernel
theorem dL_law_232 : decode cL_law 232 = .ok (.iaload, 1) := by decide +kernel
theorem dL_law_233 : decode cL_law 233 = .ok (.aload_n 3, 1) := by decide +kernel
theorem dL_law_234 : decode cL_law 234 = .ok (.invokestatic 77, 3) := by decide +kernel
theorem dL_law_237 : decode cL_law 237 = .ok (.istore 5, 2) := by decide +kernel
theorem dL_law_239 : decode cL_law 239 = .ok (.aload_n 2, 1) := by decide +kernel
theorem dL_law_240 : decode cL_law 240 = .ok (.aload_n 0, 1) := by decide +kernel
theorem dL_law_241 : decode cL_law 241 = .ok (.iload 4, 2) := by decide +kernel
theorem dL_law_243 : decode cL_law 243 = .ok (.iconst 1, 1) := by decide +kernel
theorem dL_law_244 : decode cL_law 244 = .ok (.iadd, 1) := by decide +kernel
theorem dL_law_245 : decode cL_law 245 = .ok (.iaload, 1) := by decide +kernel
theorem dL_law_246 : decode cL_law 246 = .ok (.aload_n 0, 1) := by decide +kernel
theorem dL_law_247 : decode cL_law 247 = .ok (.iload 4, 2) := by decide +kernel
theorem dL_law_249 : decode cL_law 249 = .ok (.iconst 2, 1) := by decide +kernel
theorem dL_law_250 : decode cL_law 250 = .ok (.iadd, 1) := by decide +kernel
theorem dL_law_251 : decode cL_law 251 = .ok (.iaload, 1) := by decide +kernel
theorem dL_law_252 : decode cL_law 252 = .ok (.invokevirtual 80, 3) := by decide +kernel
theorem dL_law_255 : decode cL_law 255 = .ok (.istore 6, 2) := by decide +kernel
theorem dL_law_257 : decode cL_law 257 = .ok (.aload_n 2, 1) := by decide +kernel
theorem dL_law_258 : decode cL_law 258 = .ok (.invokevirtual 74, 3) := by decide +kernel
theorem dL_law_261 : decode cL_law 261 = .ok (.iload 5, 2) := by decide +kernel
theorem dL_law_263 : decode cL_law 263 = .ok (.if_icmp .eq 5, 3) := by decide +kernel
theorem dL_law_266 : decode cL_law 266 = .ok (.iconst 0, 1) := by decide +kernel
theorem dL_law_267 : decode cL_law 267 = .ok (.ireturn, 1) := by decide +kernel
theorem dL_law_268 : decode cL_law 268 = .ok (.iload 5, 2) := by decide +kernel
theorem dL_law_270 : decode cL_law 270 = .ok (.ifCond .ne 15, 3) := by decide +kernel
theorem dL_law_273 : decode cL_law 273 = .ok (.aload_n 3, 1) := by decide +kernel
theorem dL_law_274 : decode cL_law 274 = .ok (.iconst 0, 1) := by decide +kernel
theorem dL_law_275 : decode cL_law 275 = .ok (.laload, 1) := by decide +kernel
theorem dL_law_276 : decode cL_law 276 = .ok (.iload 6, 2) := by decide +kernel
theorem dL_law_278 : decode cL_law 278 = .ok (.i2l, 1) := by decide +kernel
theorem dL_law_279 : decode cL_law 279 = .ok (.lcmp, 1) := by decide +kernel
theorem dL_law_280 : decode cL_law 280 = .ok (.ifCond .eq 5, 3) := by decide +kernel
theorem dL_law_283 : decode cL_law 283 = .ok (.iconst 0, 1) := by decide +kernel
theorem dL_law_284 : decode cL_law 284 = .ok (.ireturn, 1) := by decide +kernel
theorem dL_law_285 : decode cL_law 285 = .ok (.goto 1018, 3) := by decide +kernel
theorem dL_law_288 : decode cL_law 288 = .ok (.aload_n 1, 1) := by decide +kernel
theorem dL_law_289 : decode cL_law 289 = .ok (.aload_n 0, 1) := by decide +kernel
theorem dL_law_290 : decode cL_law 290 = .ok (.iload 4, 2) := by decide +kernel
theorem dL_law_292 : decode cL_law 292 = .ok (.iconst 1, 1) := by decide +kernel
theorem dL_law_293 : decode cL_law 293 = .ok (.iadd, 1) := by decide +kernel
theorem dL_law_294 : decode cL_law 294 = .ok (.iaload, 1) := by decide +kernel
theorem dL_law_295 : decode cL_law 295 = .ok (.aload_n 3, 1) := by decide +kernel
theorem dL_law_296 : decode cL_law 296 = .ok (.invokestatic 81, 3) := by decide +kernel
theorem dL_law_299 : decode cL_law 299 = .ok (.istore 5, 2) := by decide +kernel
theorem dL_law_301 : decode cL_law 301 = .ok (.aload_n 2, 1) := by decide +kernel
theorem dL_law_302 : decode cL_law 302 = .ok (.aload_n 0, 1) := by decide +kernel
theorem dL_law_303 : decode cL_law 303 = .ok (.iload 4, 2) := by decide +kernel
theorem dL_law_305 : decode cL_law 305 = .ok (.iconst 1, 1) := by decide +kernel
theorem dL_law_306 : decode cL_law 306 = .ok (.iadd, 1) := by decide +kernel
theorem dL_law_307 : decode cL_law 307 = .ok (.iaload, 1) := by decide +kernel
theorem dL_law_308 : decode cL_law 308 = .ok (.invokevirtual 84, 3) := by decide +kernel
theorem dL_law_311 : decode cL_law 311 = .ok (.istore 6, 2) := by decide +kernel
theorem dL_law_313 : decode cL_law 313 = .ok (.aload_n 2, 1) := by decide +kernel
theorem dL_law_314 : decode cL_law 314 = .ok (.invokevirtual 74, 3) := by decide +kernel
theorem dL_law_317 : decode cL_law 317 = .ok (.iload 5, 2) := by decide +kernel
theorem dL_law_319 : decode cL_law 319 = .ok (.if_icmp .eq 5, 3) := by decide +kernel
theorem dL_law_322 : decode cL_law 322 = .ok (.iconst 0, 1) := by decide +kernel
theorem dL_law_323 : decode cL_law 323 = .ok (.ireturn, 1) := by decide +kernel
theorem dL_law_324 : decode cL_law 324 = .ok (.iload 5, 2) := by decide +kernel
theorem dL_law_326 : decode cL_law 326 = .ok (.ifCond .ne 15, 3) := by decide +kernel
theorem dL_law_329 : decode cL_law 329 = .ok (.aload_n 3, 1) := by decide +kernel
theorem dL_law_330 : decode cL_law 330 = .ok (.iconst 0, 1) := by decide +kernel
theorem dL_law_331 : decode cL_law 331 = .ok (.laload, 1) := by decide +kernel
theorem dL_law_332 : decode cL_law 332 = .ok (.iload 6, 2) := by decide +kernel
theorem dL_law_334 : decode cL_law 334 = .ok (.i2l, 1) := by decide +kernel
theorem dL_law_335 : decode cL_law 335 = .ok (.lcmp, 1) := by decide +kernel
theorem dL_law_336 : decode cL_law 336 = .ok (.ifCond .eq 5, 3) := by decide +kernel
theorem dL_law_339 : decode cL_law 339 = .ok (.iconst 0, 1) := by decide +kernel
theorem dL_law_340 : decode cL_law 340 = .ok (.ireturn, 1) := by decide +kernel
theorem dL_law_341 : decode cL_law 341 = .ok (.goto 962, 3) := by decide +kernel
theorem dL_law_344 : decode cL_law 344 = .ok (.aload_n 1, 1) := by decide +kernel
theorem dL_law_345 : decode cL_law 345 = .ok (.aload_n 0, 1) := by decide +kernel
theorem dL_law_346 : decode cL_law 346 = .ok (.iload 4, 2) := by decide +kernel
theorem dL_law_348 : decode cL_law 348 = .ok (.iconst 1, 1) := by decide +kernel
theorem dL_law_349 : decode cL_law 349 = .ok (.iadd, 1) := by decide +kernel
theorem dL_law_350 : decode cL_law 350 = .ok (.iaload, 1) := by decide +kernel
theorem dL_law_351 : decode cL_law 351 = .ok (.aload_n 3, 1) := by decide +kernel
theorem dL_law_352 : decode cL_law 352 = .ok (.invokestatic 85, 3) := by decide +kernel
theorem dL_law_355 : decode cL_law 355 = .ok (.istore 5, 2) := by decide +kernel
theorem dL_law_357 : decode cL_law 357 = .ok (.aload_n 2, 1) := by decide +kernel
theorem dL_law_358 : decode cL_law 358 = .ok (.aload_n 0, 1) := by decide +kernel
theorem dL_law_359 : decode cL_law 359 = .ok (.iload 4, 2) := by decide +kernel
theorem dL_law_361 : decode cL_law 361 = .ok (.iconst 1, 1) := by decide +kernel
theorem dL_law_362 : decode cL_law 362 = .ok (.iadd, 1) := by decide +kernel
theorem dL_law_363 : decode cL_law 363 = .ok (.iaload, 1) := by decide +kernel
theorem dL_law_364 : decode cL_law 364 = .ok (.invokevirtual 87, 3) := by decide +kernel
theorem dL_law_367 : decode cL_law 367 = .ok (.istore 6, 2) := by decide +kernel
theorem dL_law_369 : decode cL_law 369 = .ok (.aload_n 2, 1) := by decide +kernel
theorem dL_law_370 : decode cL_law 370 = .ok (.invokevirtual 74, 3) := by decide +kernel
theorem dL_law_373 : decode cL_law 373 = .ok (.iload 5, 2) := by decide +kernel
theorem dL_law_375 : decode cL_law 375 = .ok (.if_icmp .eq 5, 3) := by decide +kernel
theorem dL_law_378 : decode cL_law 378 = .ok (.iconst 0, 1) := by decide +kernel
theorem dL_law_379 : decode cL_law 379 = .ok (.ireturn, 1) := by decide +kernel
theorem dL_law_380 : decode cL_law 380 = .ok (.iload 5, 2) := by decide +kernel
theorem dL_law_382 : decode cL_law 382 = .ok (.ifCond .ne 15, 3) := by decide +kernel
theorem dL_law_385 : decode cL_law 385 = .ok (.aload_n 3, 1) := by decide +kernel
theorem dL_law_386 : decode cL_law 386 = .ok (.iconst 0, 1) := by decide +kernel
theorem dL_law_387 : decode cL_law 387 = .ok (.laload, 1) := by decide +kernel
theorem dL_law_388 : decode cL_law 388 = .ok (.iload 6, 2) := by decide +kernel
theorem dL_law_390 : decode cL_law 390 = .ok (.i2l, 1) := by decide +kernel
theorem dL_law_391 : decode cL_law 391 = .ok (.lcmp, 1) := by decide +kernel
theorem dL_law_392 : decode cL_law 392 = .ok (.ifCond .eq 5, 3) := by decide +kernel
theorem dL_law_395 : decode cL_law 395 = .ok (.iconst 0, 1) := by decide +kernel
theorem dL_law_396 : decode cL_law 396 = .ok (.ireturn, 1) := by decide +kernel
theorem dL_law_397 : decode cL_law 397 = .ok (.goto 906, 3) := by decide +kernel
theorem dL_law_400 : decode cL_law 400 = .ok (.aload_n 1, 1) := by decide +kernel
theorem dL_law_401 : decode cL_law 401 = .ok (.invokevirtual 88, 3) := by decide +kernel
theorem dL_law_404 : decode cL_law 404 = .ok (.aload_n 2, 1) := by decide +kernel
theorem dL_law_405 : decode cL_law 405 = .ok (.invokevirtual 91, 3) := by decide +kernel
theorem dL_law_408 : decode cL_law 408 = .ok (.if_icmp .eq 895, 3) := by decide +kernel
theorem dL_law_411 : decode cL_law 411 = .ok (.iconst 0, 1) := by decide +kernel
theorem dL_law_412 : decode cL_law 412 = .ok (.ireturn, 1) := by decide +kernel
theorem dL_law_413 : decode cL_law 413 = .ok (.aload_n 1, 1) := by decide +kernel
theorem dL_law_414 : decode cL_law 414 = .ok (.aload_n 0, 1) := by decide +kernel
theorem dL_law_415 : decode cL_law 415 = .ok (.iload 4, 2) := by decide +kernel
theorem dL_law_417 : decode cL_law 417 = .ok (.iconst 1, 1) := by decide +kernel
theorem dL_law_418 : decode cL_law 418 = .ok (.iadd, 1) := by decide +kernel
theorem dL_law_419 : decode cL_law 419 = .ok (.iaload, 1) := by decide +kernel
theorem dL_law_420 : decode cL_law 420 = .ok (.aload_n 3, 1) := by decide +kernel
theorem dL_law_421 : decode cL_law 421 = .ok (.invokestatic 92, 3) := by decide +kernel
theorem dL_law_424 : decode cL_law 424 = .ok (.istore 5, 2) := by decide +kernel
theorem dL_law_426 : decode cL_law 426 = .ok (.aload_n 2, 1) := by decide +kernel
theorem dL_law_427 : decode cL_law 427 = .ok (.aload_n 0, 1) := by decide +kernel
theorem dL_law_428 : decode cL_law 428 = .ok (.iload 4, 2) := by decide +kernel
theorem dL_law_430 : decode cL_law 430 = .ok (.iconst 1, 1) := by decide +kernel
theorem dL_law_431 : decode cL_law 431 = .ok (.iadd, 1) := by decide +kernel
theorem dL_law_432 : decode cL_law 432 = .ok (.iaload, 1) := by decide +kernel
theorem dL_law_433 : decode cL_law 433 = .ok (.invokevirtual 94, 3) := by decide +kernel
theorem dL_law_436 : decode cL_law 436 = .ok (.istore 6, 2) := by decide +kernel
theorem dL_law_438 : decode cL_law 438 = .ok (.aload_n 2, 1) := by decide +kernel
theorem dL_law_439 : decode cL_law 439 = .ok (.invokevirtual 74, 3) := by decide +kernel
theorem dL_law_442 : decode cL_law 442 = .ok (.iload 5, 2) := by decide +kernel
theorem dL_law_444 : decode cL_law 444 = .ok (.if_icmp .eq 5, 3) := by decide +kernel
theorem dL_law_447 : decode cL_law 447 = .ok (.iconst 0, 1) := by decide +kernel
theorem dL_law_448 : decode cL_law 448 = .ok (.ireturn, 1) := by decide +kernel
theorem dL_law_449 : decode cL_law 449 = .ok (.iload 5, 2) := by decide +kernel
theorem dL_law_451 : decode cL_law 451 = .ok (.ifCond .ne 22, 3) := by decide +kernel
theorem dL_law_454 : decode cL_law 454 = .ok (.aload_n 3, 1) := by decide +kernel
theorem dL_law_455 : decode cL_law 455 = .ok (.iconst 0, 1) := by decide +kernel
theorem dL_law_456 : decode cL_law 456 = .ok (.laload, 1) := by decide +kernel
theorem dL_law_457 : decode cL_law 457 = .ok (.iload 6, 2) := by decide +kernel
theorem dL_law_459 : decode cL_law 459 = .ok (.ifCond .eq 7, 3) := by decide +kernel
theorem dL_law_462 : decode cL_law 462 = .ok (.lconst 1, 1) := by decide +kernel
theorem dL_law_463 : decode cL_law 463 = .ok (.goto 4, 3) := by decide +kernel
theorem dL_law_466 : decode cL_law 466 = .ok (.lconst 0, 1) := by decide +kernel
theorem dL_law_467 : decode cL_law 467 = .ok (.lcmp, 1) := by decide +kernel
theorem dL_law_468 : decode cL_law 468 = .ok (.ifCond .eq 5, 3) := by decide +kernel
theorem dL_law_471 : decode cL_law 471 = .ok (.iconst 0, 1) := by decide +kernel
theorem dL_law_472 : decode cL_law 472 = .ok (.ireturn, 1) := by decide +kernel
theorem dL_law_473 : decode cL_law 473 = .ok (.goto 830, 3) := by decide +kernel
theorem dL_law_476 : decode cL_law 476 = .ok (.aload_n 1, 1) := by decide +kernel
theorem dL_law_477 : decode cL_law 477 = .ok (.invokevirtual 95, 3) := by decide +kernel
theorem dL_law_480 : decode cL_law 480 = .ok (.aload_n 2, 1) := by decide +kernel
theorem dL_law_481 : decode cL_law 481 = .ok (.invokevirtual 98, 3) := by decide +kernel
theorem dL_law_484 : decode cL_law 484 = .ok (.if_icmp .eq 819, 3) := by decide +kernel
theorem dL_law_487 : decode cL_law 487 = .ok (.iconst 0, 1) := by decide +kernel
theorem dL_law_488 : decode cL_law 488 = .ok (.ireturn, 1) := by decide +kernel
theorem dL_law_489 : decode cL_law 489 = .ok (.aload_n 1, 1) := by decide +kernel
theorem dL_law_490 : decode cL_law 490 = .ok (.aload_n 0, 1) := by decide +kernel
theorem dL_law_491 : decode cL_law 491 = .ok (.iload 4, 2) := by decide +kernel
theorem dL_law_493 : decode cL_law 493 = .ok (.iconst 1, 1) := by decide +kernel
theorem dL_law_494 : decode cL_law 494 = .ok (.iadd, 1) := by decide +kernel
theorem dL_law_495 : decode cL_law 495 = .ok (.iaload, 1) := by decide +kernel
theorem dL_law_496 : decode cL_law 496 = .ok (.aload_n 3, 1) := by decide +kernel
theorem dL_law_497 : decode cL_law 497 = .ok (.invokestatic 99, 3) := by decide +kernel
theorem dL_law_500 : decode cL_law 500 = .ok (.istore 5, 2) := by decide +kernel
theorem dL_law_502 : decode cL_law 502 = .ok (.aload_n 2, 1) := by decide +kernel
theorem dL_law_503 : decode cL_law 503 = .ok (.aload_n 0, 1) := by decide +kernel
theorem dL_law_504 : decode cL_law 504 = .ok (.iload 4, 2) := by decide +kernel
theorem dL_law_506 : decode cL_law 506 = .ok (.iconst 1, 1) := by decide +kernel
theorem dL_law_507 : decode cL_law 507 = .ok (.iadd, 1) := by decide +kernel
theorem dL_law_508 : decode cL_law 508 = .ok (.iaload, 1) := by decide +kernel
theorem dL_law_509 : decode cL_law 509 = .ok (.invokevirtual 101, 3) := by decide +kernel
theorem dL_law_512 : decode cL_law 512 = .ok (.istore 6, 2) := by decide +kernel
theorem dL_law_514 : decode cL_law 514 = .ok (.aload_n 2, 1) := by decide +kernel
theorem dL_law_515 : decode cL_law 515 = .ok (.invokevirtual 74, 3) := by decide +kernel
theorem dL_law_518 : decode cL_law 518 = .ok (.iload 5, 2) := by decide +kernel
theorem dL_law_520 : decode cL_law 520 = .ok (.if_icmp .eq 5, 3) := by decide +kernel
theorem dL_law_523 : decode cL_law 523 = .ok (.iconst 0, 1) := by decide +kernel
theorem dL_law_524 : decode cL_law 524 = .ok (.ireturn, 1) := by decide +kernel
theorem dL_law_525 : decode cL_law 525 = .ok (.iload 5, 2) := by decide +kernel
theorem dL_law_527 : decode cL_law 527 = .ok (.ifCond .ne 15, 3) := by decide +kernel
theorem dL_law_530 : decode cL_law 530 = .ok (.aload_n 3, 1) := by decide +kernel
theorem dL_law_531 : decode cL_law 531 = .ok (.iconst 0, 1) := by decide +kernel
theorem dL_law_532 : decode cL_law 532 = .ok (.laload, 1) := by decide +kernel
theorem dL_law_533 : decode cL_law 533 = .ok (.iload 6, 2) := by decide +kernel
theorem dL_law_535 : decode cL_law 535 = .ok (.i2l, 1) := by decide +kernel
theorem dL_law_536 : decode cL_law 536 = .ok (.lcmp, 1) := by decide +kernel
theorem dL_law_537 : decode cL_law 537 = .ok (.ifCond .eq 5, 3) := by decide +kernel
theorem dL_law_540 : decode cL_law 540 = .ok (.iconst 0, 1) := by decide +kernel
theorem dL_law_541 : decode cL_law 541 = .ok (.ireturn, 1) := by decide +kernel
theorem dL_law_542 : decode cL_law 542 = .ok (.goto 761, 3) := by decide +kernel
theorem dL_law_545 : decode cL_law 545 = .ok (.aload_n 1, 1) := by decide +kernel
theorem dL_law_546 : decode cL_law 546 = .ok (.aload_n 0, 1) := by decide +kernel
theorem dL_law_547 : decode cL_law 547 = .ok (.iload 4, 2) := by decide +kernel
theorem dL_law_549 : decode cL_law 549 = .ok (.iconst 1, 1) := by decide +kernel
theorem dL_law_550 : decode cL_law 550 = .ok (.iadd, 1) := by decide +kernel
theorem dL_law_551 : decode cL_law 551 = .ok (.iaload, 1) := by decide +kernel
theorem dL_law_552 : decode cL_law 552 = .ok (.aload_n 3, 1) := by decide +kernel
theorem dL_law_553 : decode cL_law 553 = .ok (.invokestatic 102, 3) := by decide +kernel
theorem dL_law_556 : decode cL_law 556 = .ok (.istore 5, 2) := by decide +kernel
theorem dL_law_558 : decode cL_law 558 = .ok (.aload_n 2, 1) := by decide +kernel
theorem dL_law_559 : decode cL_law 559 = .ok (.aload_n 0, 1) := by decide +kernel
theorem dL_law_560 : decode cL_law 560 = .ok (.iload 4, 2) := by decide +kernel
theorem dL_law_562 : decode cL_law 562 = .ok (.iconst 1, 1) := by decide +kernel
theorem dL_law_563 : decode cL_law 563 = .ok (.iadd, 1) := by decide +kernel
theorem dL_law_564 : decode cL_law 564 = .ok (.iaload, 1) := by decide +kernel
theorem dL_law_565 : decode cL_law 565 = .ok (.invokevirtual 104, 3) := by decide +kernel
theorem dL_law_568 : decode cL_law 568 = .ok (.istore 6, 2) := by decide +kernel
theorem dL_law_570 : decode cL_law 570 = .ok (.aload_n 2, 1) := by decide +kernel
theorem dL_law_571 : decode cL_law 571 = .ok (.invokevirtual 74, 3) := by decide +kernel
theorem dL_law_574 : decode cL_law 574 = .ok (.iload 5, 2) := by decide +kernel
theorem dL_law_576 : decode cL_law 576 = .ok (.if_icmp .eq 5, 3) := by decide +kernel
theorem dL_law_579 : decode cL_law 579 = .ok (.iconst 0, 1) := by decide +kernel
theorem dL_law_580 : decode cL_law 580 = .ok (.ireturn, 1) := by decide +kernel
theorem dL_law_581 : decode cL_law 581 = .ok (.iload 5, 2) := by decide +kernel
theorem dL_law_583 : decode cL_law 583 = .ok (.ifCond .ne 22, 3) := by decide +kernel
theorem dL_law_586 : decode cL_law 586 = .ok (.aload_n 3, 1) := by decide +kernel
theorem dL_law_587 : decode cL_law 587 = .ok (.iconst 0, 1) := by decide +kernel
theorem dL_law_588 : decode cL_law 588 = .ok (.laload, 1) := by decide +kernel
theorem dL_law_589 : decode cL_law 589 = .ok (.iload 6, 2) := by decide +kernel
theorem dL_law_591 : decode cL_law 591 = .ok (.ifCond .eq 7, 3) := by decide +kernel
theorem dL_law_594 : decode cL_law 594 = .ok (.lconst 1, 1) := by decide +kernel
theorem dL_law_595 : decode cL_law 595 = .ok (.goto 4, 3) := by decide +kernel
theorem dL_law_598 : decode cL_law 598 = .ok (.lconst 0, 1) := by decide +kernel
theorem dL_law_599 : decode cL_law 599 = .ok (.lcmp, 1) := by decide +kernel
theorem dL_law_600 : decode cL_law 600 = .ok (.ifCond .eq 5, 3) := by decide +kernel
theorem dL_law_603 : decode cL_law 603 = .ok (.iconst 0, 1) := by decide +kernel
theorem dL_law_604 : decode cL_law 604 = .ok (.ireturn, 1) := by decide +kernel
theorem dL_law_605 : decode cL_law 605 = .ok (.goto 698, 3) := by decide +kernel
theorem dL_law_608 : decode cL_law 608 = .ok (.aload_n 1, 1) := by decide +kernel
theorem dL_law_609 : decode cL_law 609 = .ok (.invokevirtual 105, 3) := by decide +kernel
theorem dL_law_612 : decode cL_law 612 = .ok (.aload_n 2, 1) := by decide +kernel
theorem dL_law_613 : decode cL_law 613 = .ok (.invokevirtual 108, 3) := by decide +kernel
theorem dL_law_616 : decode cL_law 616 = .ok (.if_icmp .eq 687, 3) := by decide +kernel
theorem dL_law_619 : decode cL_law 619 = .ok (.iconst 0, 1) := by decide +kernel
theorem dL_law_620 : decode cL_law 620 = .ok (.ireturn, 1) := by decide +kernel
theorem dL_law_621 : decode cL_law 621 = .ok (.aload_n 1, 1) := by decide +kernel
theorem dL_law_622 : decode cL_law 622 = .ok (.invokevirtual 109, 3) := by decide +kernel
theorem dL_law_625 : decode cL_law 625 = .ok (.aload_n 2, 1) := by decide +kernel
theorem dL_law_626 : decode cL_law 626 = .ok (.invokevirtual 112, 3) := by decide +kernel
theorem dL_law_629 : decode cL_law 629 = .ok (.if_icmp .eq 674, 3) := by decide +kernel
theorem dL_law_632 : decode cL_law 632 = .ok (.iconst 0, 1) := by decide +kernel
theorem dL_law_633 : decode cL_law 633 = .ok (.ireturn, 1) := by decide +kernel
theorem dL_law_634 : decode cL_law 634 = .ok (.aload_n 1, 1) := by decide +kernel
theorem dL_law_635 : decode cL_law 635 = .ok (.invokevirtual 113, 3) := by decide +kernel
theorem dL_law_638 : decode cL_law 638 = .ok (.aload_n 2, 1) := by decide +kernel
theorem dL_law_639 : decode cL_law 639 = .ok (.invokevirtual 116, 3) := by decide +kernel
theorem dL_law_642 : decode cL_law 642 = .ok (.if_icmp .eq 661, 3) := by decide +kernel
theorem dL_law_645 : decode cL_law 645 = .ok (.iconst 0, 1) := by decide +kernel
theorem dL_law_646 : decode cL_law 646 = .ok (.ireturn, 1) := by decide +kernel
theorem dL_law_647 : decode cL_law 647 = .ok (.aload_n 1, 1) := by decide +kernel
theorem dL_law_648 : decode cL_law 648 = .ok (.aload_n 0, 1) := by decide +kernel
theorem dL_law_649 : decode cL_law 649 = .ok (.iload 4, 2) := by decide +kernel
theorem dL_law_651 : decode cL_law 651 = .ok (.iconst 1, 1) := by decide +kernel
theorem dL_law_652 : decode cL_law 652 = .ok (.iadd, 1) := by decide +kernel
theorem dL_law_653 : decode cL_law 653 = .ok (.iaload, 1) := by decide +kernel
theorem dL_law_654 : decode cL_law 654 = .ok (.aload_n 3, 1) := by decide +kernel
theorem dL_law_655 : decode cL_law 655 = .ok (.invokestatic 117, 3) := by decide +kernel
theorem dL_law_658 : decode cL_law 658 = .ok (.istore 5, 2) := by decide +kernel
theorem dL_law_660 : decode cL_law 660 = .ok (.aload_n 2, 1) := by decide +kernel
theorem dL_law_661 : decode cL_law 661 = .ok (.aload_n 0, 1) := by decide +kernel
theorem dL_law_662 : decode cL_law 662 = .ok (.iload 4, 2) := by decide +kernel
theorem dL_law_664 : decode cL_law 664 = .ok (.iconst 1, 1) := by decide +kernel
theorem dL_law_665 : decode cL_law 665 = .ok (.iadd, 1) := by decide +kernel
theorem dL_law_666 : decode cL_law 666 = .ok (.iaload, 1) := by decide +kernel
theorem dL_law_667 : decode cL_law 667 = .ok (.invokevirtual 119, 3) := by decide +kernel
theorem dL_law_670 : decode cL_law 670 = .ok (.istore 6, 2) := by decide +kernel
theorem dL_law_672 : decode cL_law 672 = .ok (.aload_n 2, 1) := by decide +kernel
theorem dL_law_673 : decode cL_law 673 = .ok (.invokevirtual 74, 3) := by decide +kernel
