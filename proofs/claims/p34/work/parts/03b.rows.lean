theorem dX4_throwBall_118 : decode cX4_throwBall 118 = .ok (.ireturn, 1) := by decide +kernel
set_option maxRecDepth 20000 in
theorem ggX4_replaceString_X4_checkPin : GoodIn wsX4_replaceString wsX4_checkPin := goodIn_ca (goodIn_r _ [7, 8, 9, 6, 10, 11, 12] (by decide +kernel) (by decide +kernel)) (goodIn_sub (fun _ h => List.mem_cons_of_mem _ (List.mem_append_right _ h)) (by decide +kernel))
set_option maxRecDepth 20000 in
theorem gX4_replaceString_X4_checkPin : GoodIn wsX4_replaceString (va_wsS RX4 83 yX4_checkPin wsX4_checkPin) := goodIn_app (goodIn_of _ (by decide +kernel)) ggX4_replaceString_X4_checkPin
set_option maxRecDepth 20000 in
theorem ggX4_replaceString_X0_spares : GoodIn wsX4_replaceString wsX0_spares := goodIn_r _ [17, 18, 31, 32, 33] (by decide +kernel) (by decide +kernel)
set_option maxRecDepth 20000 in
theorem gX4_replaceString_X0_spares : GoodIn wsX4_replaceString (wsV RX4 86 RX0 yX0_spares wsX0_spares) := goodIn_app (goodIn_of _ (by decide +kernel)) ggX4_replaceString_X0_spares
set_option maxRecDepth 20000 in
theorem ggX4_replaceString_X0_replace : GoodIn wsX4_replaceString wsX0_replace := goodIn_r _ [22, 18, 23, 31, 32, 33] (by decide +kernel) (by decide +kernel)
set_option maxRecDepth 20000 in
theorem gX4_replaceString_X0_replace : GoodIn wsX4_replaceString (wsV RX4 91 RX0 yX0_replace wsX0_replace) := goodIn_app (goodIn_of _ (by decide +kernel)) ggX4_replaceString_X0_replace
theorem dX4_replaceString_0 : decode cX4_replaceString 0 = .ok (.iload_n 1, 1) := by decide +kernel
theorem dX4_replaceString_1 : decode cX4_replaceString 1 = .ok (.invokestatic 83, 3) := by decide +kernel
theorem dX4_replaceString_4 : decode cX4_replaceString 4 = .ok (.aload_n 0, 1) := by decide +kernel
theorem dX4_replaceString_5 : decode cX4_replaceString 5 = .ok (.getfield 10, 3) := by decide +kernel
theorem dX4_replaceString_8 : decode cX4_replaceString 8 = .ok (.invokevirtual 86, 3) := by decide +kernel
theorem dX4_replaceString_11 : decode cX4_replaceString 11 = .ok (.ifCond .gt 13, 3) := by decide +kernel
theorem dX4_replaceString_14 : decode cX4_replaceString 14 = .ok (.new 38, 3) := by decide +kernel
theorem dX4_replaceString_17 : decode cX4_replaceString 17 = .ok (.dup, 1) := by decide +kernel
theorem dX4_replaceString_18 : decode cX4_replaceString 18 = .ok (.ldc 89, 2) := by decide +kernel
theorem dX4_replaceString_20 : decode cX4_replaceString 20 = .ok (.invokespecial 42, 3) := by decide +kernel
theorem dX4_replaceString_23 : decode cX4_replaceString 23 = .ok (.athrow, 1) := by decide +kernel
theorem dX4_replaceString_24 : decode cX4_replaceString 24 = .ok (.aload_n 0, 1) := by decide +kernel
theorem dX4_replaceString_25 : decode cX4_replaceString 25 = .ok (.getfield 10, 3) := by decide +kernel
theorem dX4_replaceString_28 : decode cX4_replaceString 28 = .ok (.iload_n 1, 1) := by decide +kernel
theorem dX4_replaceString_29 : decode cX4_replaceString 29 = .ok (.invokevirtual 91, 3) := by decide +kernel
theorem dX4_replaceString_32 : decode cX4_replaceString 32 = .ok (.aload_n 0, 1) := by decide +kernel
theorem dX4_replaceString_33 : decode cX4_replaceString 33 = .ok (.getfield 10, 3) := by decide +kernel
theorem dX4_replaceString_36 : decode cX4_replaceString 36 = .ok (.invokevirtual 86, 3) := by decide +kernel
theorem dX4_replaceString_39 : decode cX4_replaceString 39 = .ok (.ireturn, 1) := by decide +kernel
set_option maxRecDepth 20000 in
theorem ggX4_buyStrings_X0_stock : GoodIn wsX4_buyStrings wsX0_stock := goodIn_r _ [8, 9, 21, 22, 23] (by decide +kernel) (by decide +kernel)
set_option maxRecDepth 20000 in
theorem gX4_buyStrings_X0_stock : GoodIn wsX4_buyStrings (wsV RX4 99 RX0 yX0_stock wsX0_stock) := goodIn_app (goodIn_of _ (by decide +kernel)) ggX4_buyStrings_X0_stock
set_option maxRecDepth 20000 in
theorem ggX4_buyStrings_X0_spares : GoodIn wsX4_buyStrings wsX0_spares := goodIn_r _ [13, 9, 21, 22, 23] (by decide +kernel) (by decide +kernel)
set_option maxRecDepth 20000 in
theorem gX4_buyStrings_X0_spares : GoodIn wsX4_buyStrings (wsV RX4 86 RX0 yX0_spares wsX0_spares) := goodIn_app (goodIn_of _ (by decide +kernel)) ggX4_buyStrings_X0_spares
theorem dX4_buyStrings_0 : decode cX4_buyStrings 0 = .ok (.iload_n 1, 1) := by decide +kernel
theorem dX4_buyStrings_1 : decode cX4_buyStrings 1 = .ok (.iconst 1, 1) := by decide +kernel
theorem dX4_buyStrings_2 : decode cX4_buyStrings 2 = .ok (.if_icmp .lt 9, 3) := by decide +kernel
theorem dX4_buyStrings_5 : decode cX4_buyStrings 5 = .ok (.iload_n 1, 1) := by decide +kernel
theorem dX4_buyStrings_6 : decode cX4_buyStrings 6 = .ok (.bipush 20, 2) := by decide +kernel
theorem dX4_buyStrings_8 : decode cX4_buyStrings 8 = .ok (.if_icmp .le 13, 3) := by decide +kernel
theorem dX4_buyStrings_11 : decode cX4_buyStrings 11 = .ok (.new 94, 3) := by decide +kernel
theorem dX4_buyStrings_14 : decode cX4_buyStrings 14 = .ok (.dup, 1) := by decide +kernel
theorem dX4_buyStrings_15 : decode cX4_buyStrings 15 = .ok (.ldc 96, 2) := by decide +kernel
theorem dX4_buyStrings_17 : decode cX4_buyStrings 17 = .ok (.invokespecial 98, 3) := by decide +kernel
theorem dX4_buyStrings_20 : decode cX4_buyStrings 20 = .ok (.athrow, 1) := by decide +kernel
theorem dX4_buyStrings_21 : decode cX4_buyStrings 21 = .ok (.aload_n 0, 1) := by decide +kernel
theorem dX4_buyStrings_22 : decode cX4_buyStrings 22 = .ok (.getfield 10, 3) := by decide +kernel
theorem dX4_buyStrings_25 : decode cX4_buyStrings 25 = .ok (.iload_n 1, 1) := by decide +kernel
theorem dX4_buyStrings_26 : decode cX4_buyStrings 26 = .ok (.invokevirtual 99, 3) := by decide +kernel
theorem dX4_buyStrings_29 : decode cX4_buyStrings 29 = .ok (.aload_n 0, 1) := by decide +kernel
theorem dX4_buyStrings_30 : decode cX4_buyStrings 30 = .ok (.getfield 10, 3) := by decide +kernel
theorem dX4_buyStrings_33 : decode cX4_buyStrings 33 = .ok (.invokevirtual 86, 3) := by decide +kernel
theorem dX4_buyStrings_36 : decode cX4_buyStrings 36 = .ok (.ireturn, 1) := by decide +kernel
set_option maxRecDepth 20000 in
theorem ggX4_newGame_X4_leader : GoodIn wsX4_newGame wsX4_leader := goodIn_r _ [11, 12, 1, 13, 14, 15, 16, 17, 18, 19, 20, 21, 22, 23, 24, 25, 26, 27, 28, 29, 30, 52, 53, 54, 55, 56, 57, 58, 59, 60, 61, 62, 63] (by decide +kernel) (by decide +kernel)
set_option maxRecDepth 20000 in
theorem gX4_newGame_X4_leader : GoodIn wsX4_newGame (wsV RX4 102 RX4 yX4_leader wsX4_leader) := goodIn_app (goodIn_of _ (by decide +kernel)) ggX4_newGame_X4_leader
set_option maxRecDepth 20000 in
theorem ggX4_newGame_X3_clear : GoodIn wsX4_newGame wsX3_clear := goodIn_r _ [34, 22, 23, 24, 25, 59, 60, 61, 62, 63] (by decide +kernel) (by decide +kernel)
set_option maxRecDepth 20000 in
theorem gX4_newGame_X3_clear : GoodIn wsX4_newGame (wsV RX4 105 RX3 yX3_clear wsX3_clear) := goodIn_app (goodIn_of _ (by decide +kernel)) ggX4_newGame_X3_clear
set_option maxRecDepth 20000 in
theorem ggX4_newGame_X2_returnAll : GoodIn wsX4_newGame wsX2_returnAll := goodIn_r _ [39, 40, 64] (by decide +kernel) (by decide +kernel)
set_option maxRecDepth 20000 in
theorem gX4_newGame_X2_returnAll : GoodIn wsX4_newGame (wsV RX4 111 RX2 yX2_returnAll wsX2_returnAll) := goodIn_app (goodIn_of _ (by decide +kernel)) ggX4_newGame_X2_returnAll
set_option maxRecDepth 20000 in
theorem ggX4_newGame_X0_setUp : GoodIn wsX4_newGame wsX0_setUp := goodIn_r _ [45, 46, 47, 48, 49, 44, 50, 51, 65, 66, 67] (by decide +kernel) (by decide +kernel)
set_option maxRecDepth 20000 in
theorem gX4_newGame_X0_setUp : GoodIn wsX4_newGame (wsV RX4 114 RX0 yX0_setUp wsX0_setUp) := goodIn_app (goodIn_of _ (by decide +kernel)) ggX4_newGame_X0_setUp
theorem dX4_newGame_0 : decode cX4_newGame 0 = .ok (.aload_n 0, 1) := by decide +kernel
theorem dX4_newGame_1 : decode cX4_newGame 1 = .ok (.invokevirtual 102, 3) := by decide +kernel
theorem dX4_newGame_4 : decode cX4_newGame 4 = .ok (.istore_n 1, 1) := by decide +kernel
theorem dX4_newGame_5 : decode cX4_newGame 5 = .ok (.iconst 0, 1) := by decide +kernel
theorem dX4_newGame_6 : decode cX4_newGame 6 = .ok (.istore_n 2, 1) := by decide +kernel
theorem dX4_newGame_7 : decode cX4_newGame 7 = .ok (.iload_n 2, 1) := by decide +kernel
theorem dX4_newGame_8 : decode cX4_newGame 8 = .ok (.aload_n 0, 1) := by decide +kernel
theorem dX4_newGame_9 : decode cX4_newGame 9 = .ok (.getfield 25, 3) := by decide +kernel
theorem dX4_newGame_12 : decode cX4_newGame 12 = .ok (.arraylength, 1) := by decide +kernel
theorem dX4_newGame_13 : decode cX4_newGame 13 = .ok (.if_icmp .ge 18, 3) := by decide +kernel
theorem dX4_newGame_16 : decode cX4_newGame 16 = .ok (.aload_n 0, 1) := by decide +kernel
theorem dX4_newGame_17 : decode cX4_newGame 17 = .ok (.getfield 25, 3) := by decide +kernel
theorem dX4_newGame_20 : decode cX4_newGame 20 = .ok (.iload_n 2, 1) := by decide +kernel
theorem dX4_newGame_21 : decode cX4_newGame 21 = .ok (.aaload, 1) := by decide +kernel
theorem dX4_newGame_22 : decode cX4_newGame 22 = .ok (.invokevirtual 105, 3) := by decide +kernel
theorem dX4_newGame_25 : decode cX4_newGame 25 = .ok (.iinc 2 1, 3) := by decide +kernel
theorem dX4_newGame_28 : decode cX4_newGame 28 = .ok (.goto (-21), 3) := by decide +kernel
theorem dX4_newGame_31 : decode cX4_newGame 31 = .ok (.aload_n 0, 1) := by decide +kernel
theorem dX4_newGame_32 : decode cX4_newGame 32 = .ok (.iconst 0, 1) := by decide +kernel
theorem dX4_newGame_33 : decode cX4_newGame 33 = .ok (.putfield 108, 3) := by decide +kernel
theorem dX4_newGame_36 : decode cX4_newGame 36 = .ok (.aload_n 0, 1) := by decide +kernel
theorem dX4_newGame_37 : decode cX4_newGame 37 = .ok (.iconst 0, 1) := by decide +kernel
theorem dX4_newGame_38 : decode cX4_newGame 38 = .ok (.putfield 70, 3) := by decide +kernel
theorem dX4_newGame_41 : decode cX4_newGame 41 = .ok (.aload_n 0, 1) := by decide +kernel
theorem dX4_newGame_42 : decode cX4_newGame 42 = .ok (.iconst 0, 1) := by decide +kernel
theorem dX4_newGame_43 : decode cX4_newGame 43 = .ok (.putfield 77, 3) := by decide +kernel
theorem dX4_newGame_46 : decode cX4_newGame 46 = .ok (.aload_n 0, 1) := by decide +kernel
theorem dX4_newGame_47 : decode cX4_newGame 47 = .ok (.getfield 19, 3) := by decide +kernel
theorem dX4_newGame_50 : decode cX4_newGame 50 = .ok (.invokevirtual 111, 3) := by decide +kernel
theorem dX4_newGame_53 : decode cX4_newGame 53 = .ok (.aload_n 0, 1) := by decide +kernel
theorem dX4_newGame_54 : decode cX4_newGame 54 = .ok (.getfield 10, 3) := by decide +kernel
theorem dX4_newGame_57 : decode cX4_newGame 57 = .ok (.invokevirtual 114, 3) := by decide +kernel
theorem dX4_newGame_60 : decode cX4_newGame 60 = .ok (.iload_n 1, 1) := by decide +kernel
theorem dX4_newGame_61 : decode cX4_newGame 61 = .ok (.ireturn, 1) := by decide +kernel
set_option maxRecDepth 20000 in
theorem ggX4_isStanding_X4_checkPin : GoodIn wsX4_isStanding wsX4_checkPin := goodIn_ca (goodIn_r _ [5, 6, 7, 4, 8, 9, 10] (by decide +kernel) (by decide +kernel)) (goodIn_sub (fun _ h => List.mem_cons_of_mem _ (List.mem_append_right _ h)) (by decide +kernel))
set_option maxRecDepth 20000 in
theorem gX4_isStanding_X4_checkPin : GoodIn wsX4_isStanding (va_wsS RX4 83 yX4_checkPin wsX4_checkPin) := goodIn_app (goodIn_of _ (by decide +kernel)) ggX4_isStanding_X4_checkPin
set_option maxRecDepth 20000 in
theorem ggX4_isStanding_X0_standingPins : GoodIn wsX4_isStanding wsX0_standingPins := goodIn_r _ [15, 16, 28, 29, 30] (by decide +kernel) (by decide +kernel)
set_option maxRecDepth 20000 in
theorem gX4_isStanding_X0_standingPins : GoodIn wsX4_isStanding (wsV RX4 67 RX0 yX0_standingPins wsX0_standingPins) := goodIn_app (goodIn_of _ (by decide +kernel)) ggX4_isStanding_X0_standingPins
set_option maxRecDepth 20000 in
theorem ggX4_isStanding_X1_holds : GoodIn wsX4_isStanding wsX1_holds := goodIn_r _ [20] (by decide +kernel) (by decide +kernel)
set_option maxRecDepth 20000 in
theorem gX4_isStanding_X1_holds : GoodIn wsX4_isStanding (va_wsS RX4 117 yX1_holds wsX1_holds) := goodIn_app (goodIn_of _ (by decide +kernel)) ggX4_isStanding_X1_holds
theorem dX4_isStanding_0 : decode cX4_isStanding 0 = .ok (.iload_n 1, 1) := by decide +kernel
theorem dX4_isStanding_1 : decode cX4_isStanding 1 = .ok (.invokestatic 83, 3) := by decide +kernel
theorem dX4_isStanding_4 : decode cX4_isStanding 4 = .ok (.aload_n 0, 1) := by decide +kernel
theorem dX4_isStanding_5 : decode cX4_isStanding 5 = .ok (.getfield 10, 3) := by decide +kernel
theorem dX4_isStanding_8 : decode cX4_isStanding 8 = .ok (.invokevirtual 67, 3) := by decide +kernel
theorem dX4_isStanding_11 : decode cX4_isStanding 11 = .ok (.iload_n 1, 1) := by decide +kernel
theorem dX4_isStanding_12 : decode cX4_isStanding 12 = .ok (.invokestatic 117, 3) := by decide +kernel
theorem dX4_isStanding_15 : decode cX4_isStanding 15 = .ok (.ireturn, 1) := by decide +kernel
set_option maxRecDepth 20000 in
theorem ggX4_standing_X0_standingPins : GoodIn wsX4_standing wsX0_standingPins := goodIn_r _ [6, 7, 22, 23, 24] (by decide +kernel) (by decide +kernel)
set_option maxRecDepth 20000 in
theorem gX4_standing_X0_standingPins : GoodIn wsX4_standing (wsV RX4 67 RX0 yX0_standingPins wsX0_standingPins) := goodIn_app (goodIn_of _ (by decide +kernel)) ggX4_standing_X0_standingPins
set_option maxRecDepth 20000 in
theorem ggX4_standing_J6_bitCount_0f7a4 : GoodIn wsX4_standing wsJ6_bitCount_0f7a4 := goodIn_r _ [11, 12, 13, 14] (by decide +kernel) (by decide +kernel)
set_option maxRecDepth 20000 in
theorem gX4_standing_J6_bitCount_0f7a4 : GoodIn wsX4_standing (va_wsS RX4 123 yJ6_bitCount_0f7a4 wsJ6_bitCount_0f7a4) := goodIn_app (goodIn_of _ (by decide +kernel)) ggX4_standing_J6_bitCount_0f7a4
theorem dX4_standing_0 : decode cX4_standing 0 = .ok (.aload_n 0, 1) := by decide +kernel
theorem dX4_standing_1 : decode cX4_standing 1 = .ok (.getfield 10, 3) := by decide +kernel
theorem dX4_standing_4 : decode cX4_standing 4 = .ok (.invokevirtual 67, 3) := by decide +kernel
theorem dX4_standing_7 : decode cX4_standing 7 = .ok (.invokestatic 123, 3) := by decide +kernel
theorem dX4_standing_10 : decode cX4_standing 10 = .ok (.ireturn, 1) := by decide +kernel
set_option maxRecDepth 20000 in
theorem ggX4_wearOf_X4_checkPin : GoodIn wsX4_wearOf wsX4_checkPin := goodIn_ca (goodIn_r _ [5, 6, 7, 4, 8, 9, 10] (by decide +kernel) (by decide +kernel)) (goodIn_sub (fun _ h => List.mem_cons_of_mem _ (List.mem_append_right _ h)) (by decide +kernel))
set_option maxRecDepth 20000 in
theorem gX4_wearOf_X4_checkPin : GoodIn wsX4_wearOf (va_wsS RX4 83 yX4_checkPin wsX4_checkPin) := goodIn_app (goodIn_of _ (by decide +kernel)) ggX4_wearOf_X4_checkPin
set_option maxRecDepth 20000 in
theorem ggX4_wearOf_X0_wear : GoodIn wsX4_wearOf wsX0_wear := goodIn_r _ [15, 16, 24, 25, 26] (by decide +kernel) (by decide +kernel)
set_option maxRecDepth 20000 in
theorem gX4_wearOf_X0_wear : GoodIn wsX4_wearOf (wsV RX4 128 RX0 yX0_wear wsX0_wear) := goodIn_app (goodIn_of _ (by decide +kernel)) ggX4_wearOf_X0_wear
theorem dX4_wearOf_0 : decode cX4_wearOf 0 = .ok (.iload_n 1, 1) := by decide +kernel
theorem dX4_wearOf_1 : decode cX4_wearOf 1 = .ok (.invokestatic 83, 3) := by decide +kernel
theorem dX4_wearOf_4 : decode cX4_wearOf 4 = .ok (.aload_n 0, 1) := by decide +kernel
theorem dX4_wearOf_5 : decode cX4_wearOf 5 = .ok (.getfield 10, 3) := by decide +kernel
theorem dX4_wearOf_8 : decode cX4_wearOf 8 = .ok (.iload_n 1, 1) := by decide +kernel
theorem dX4_wearOf_9 : decode cX4_wearOf 9 = .ok (.invokevirtual 128, 3) := by decide +kernel
theorem dX4_wearOf_12 : decode cX4_wearOf 12 = .ok (.ireturn, 1) := by decide +kernel
set_option maxRecDepth 20000 in
theorem ggX4_isBroken_X4_checkPin : GoodIn wsX4_isBroken wsX4_checkPin := goodIn_ca (goodIn_r _ [5, 6, 7, 4, 8, 9, 10] (by decide +kernel) (by decide +kernel)) (goodIn_sub (fun _ h => List.mem_cons_of_mem _ (List.mem_append_right _ h)) (by decide +kernel))
set_option maxRecDepth 20000 in
theorem gX4_isBroken_X4_checkPin : GoodIn wsX4_isBroken (va_wsS RX4 83 yX4_checkPin wsX4_checkPin) := goodIn_app (goodIn_of _ (by decide +kernel)) ggX4_isBroken_X4_checkPin
set_option maxRecDepth 20000 in
theorem ggX4_isBroken_X0_broken : GoodIn wsX4_isBroken wsX0_broken := goodIn_r _ [15, 16, 24, 25, 26] (by decide +kernel) (by decide +kernel)
set_option maxRecDepth 20000 in
theorem gX4_isBroken_X0_broken : GoodIn wsX4_isBroken (wsV RX4 131 RX0 yX0_broken wsX0_broken) := goodIn_app (goodIn_of _ (by decide +kernel)) ggX4_isBroken_X0_broken
theorem dX4_isBroken_0 : decode cX4_isBroken 0 = .ok (.iload_n 1, 1) := by decide +kernel
theorem dX4_isBroken_1 : decode cX4_isBroken 1 = .ok (.invokestatic 83, 3) := by decide +kernel
theorem dX4_isBroken_4 : decode cX4_isBroken 4 = .ok (.aload_n 0, 1) := by decide +kernel
theorem dX4_isBroken_5 : decode cX4_isBroken 5 = .ok (.getfield 10, 3) := by decide +kernel
theorem dX4_isBroken_8 : decode cX4_isBroken 8 = .ok (.iload_n 1, 1) := by decide +kernel
theorem dX4_isBroken_9 : decode cX4_isBroken 9 = .ok (.invokevirtual 131, 3) := by decide +kernel
theorem dX4_isBroken_12 : decode cX4_isBroken 12 = .ok (.ireturn, 1) := by decide +kernel
set_option maxRecDepth 20000 in
theorem ggX4_brokenStrings_X0_brokenCount : GoodIn wsX4_brokenStrings wsX0_brokenCount := goodIn_r _ [6, 7, 8, 9, 5, 10, 11, 19, 20, 21] (by decide +kernel) (by decide +kernel)
set_option maxRecDepth 20000 in
theorem gX4_brokenStrings_X0_brokenCount : GoodIn wsX4_brokenStrings (wsV RX4 135 RX0 yX0_brokenCount wsX0_brokenCount) := goodIn_app (goodIn_of _ (by decide +kernel)) ggX4_brokenStrings_X0_brokenCount
theorem dX4_brokenStrings_0 : decode cX4_brokenStrings 0 = .ok (.aload_n 0, 1) := by decide +kernel
theorem dX4_brokenStrings_1 : decode cX4_brokenStrings 1 = .ok (.getfield 10, 3) := by decide +kernel
theorem dX4_brokenStrings_4 : decode cX4_brokenStrings 4 = .ok (.invokevirtual 135, 3) := by decide +kernel
theorem dX4_brokenStrings_7 : decode cX4_brokenStrings 7 = .ok (.ireturn, 1) := by decide +kernel
set_option maxRecDepth 20000 in
theorem ggX4_mostWorn_X0_mostWornPin : GoodIn wsX4_mostWorn wsX0_mostWornPin := goodIn_r _ [6, 7, 8, 9, 10, 5, 11, 19, 20, 21] (by decide +kernel) (by decide +kernel)
set_option maxRecDepth 20000 in
theorem gX4_mostWorn_X0_mostWornPin : GoodIn wsX4_mostWorn (wsV RX4 138 RX0 yX0_mostWornPin wsX0_mostWornPin) := goodIn_app (goodIn_of _ (by decide +kernel)) ggX4_mostWorn_X0_mostWornPin
theorem dX4_mostWorn_0 : decode cX4_mostWorn 0 = .ok (.aload_n 0, 1) := by decide +kernel
theorem dX4_mostWorn_1 : decode cX4_mostWorn 1 = .ok (.getfield 10, 3) := by decide +kernel
theorem dX4_mostWorn_4 : decode cX4_mostWorn 4 = .ok (.invokevirtual 138, 3) := by decide +kernel
theorem dX4_mostWorn_7 : decode cX4_mostWorn 7 = .ok (.ireturn, 1) := by decide +kernel
set_option maxRecDepth 20000 in
theorem ggX4_spareStrings_X0_spares : GoodIn wsX4_spareStrings wsX0_spares := goodIn_r _ [6, 7, 15, 16, 17] (by decide +kernel) (by decide +kernel)
set_option maxRecDepth 20000 in
theorem gX4_spareStrings_X0_spares : GoodIn wsX4_spareStrings (wsV RX4 86 RX0 yX0_spares wsX0_spares) := goodIn_app (goodIn_of _ (by decide +kernel)) ggX4_spareStrings_X0_spares
theorem dX4_spareStrings_0 : decode cX4_spareStrings 0 = .ok (.aload_n 0, 1) := by decide +kernel
theorem dX4_spareStrings_1 : decode cX4_spareStrings 1 = .ok (.getfield 10, 3) := by decide +kernel
theorem dX4_spareStrings_4 : decode cX4_spareStrings 4 = .ok (.invokevirtual 86, 3) := by decide +kernel
theorem dX4_spareStrings_7 : decode cX4_spareStrings 7 = .ok (.ireturn, 1) := by decide +kernel
set_option maxRecDepth 20000 in
theorem ggX4_awayFor_X4_checkBall : GoodIn wsX4_awayFor wsX4_checkBall := goodIn_ca (goodIn_r _ [5, 6, 7, 4, 8, 9, 10] (by decide +kernel) (by decide +kernel)) (goodIn_sub (fun _ h => List.mem_cons_of_mem _ (List.mem_append_right _ h)) (by decide +kernel))
set_option maxRecDepth 20000 in
theorem gX4_awayFor_X4_checkBall : GoodIn wsX4_awayFor (va_wsS RX4 141 yX4_checkBall wsX4_checkBall) := goodIn_app (goodIn_of _ (by decide +kernel)) ggX4_awayFor_X4_checkBall
set_option maxRecDepth 20000 in
theorem ggX4_awayFor_X2_throwsAway : GoodIn wsX4_awayFor wsX2_throwsAway := goodIn_r _ [15, 16, 24] (by decide +kernel) (by decide +kernel)
set_option maxRecDepth 20000 in
theorem gX4_awayFor_X2_throwsAway : GoodIn wsX4_awayFor (wsV RX4 53 RX2 yX2_throwsAway wsX2_throwsAway) := goodIn_app (goodIn_of _ (by decide +kernel)) ggX4_awayFor_X2_throwsAway
theorem dX4_awayFor_0 : decode cX4_awayFor 0 = .ok (.iload_n 1, 1) := by decide +kernel
theorem dX4_awayFor_1 : decode cX4_awayFor 1 = .ok (.invokestatic 141, 3) := by decide +kernel
theorem dX4_awayFor_4 : decode cX4_awayFor 4 = .ok (.aload_n 0, 1) := by decide +kernel
theorem dX4_awayFor_5 : decode cX4_awayFor 5 = .ok (.getfield 19, 3) := by decide +kernel
theorem dX4_awayFor_8 : decode cX4_awayFor 8 = .ok (.iload_n 1, 1) := by decide +kernel
theorem dX4_awayFor_9 : decode cX4_awayFor 9 = .ok (.invokevirtual 53, 3) := by decide +kernel
theorem dX4_awayFor_12 : decode cX4_awayFor 12 = .ok (.ireturn, 1) := by decide +kernel
theorem dX4_players_0 : decode cX4_players 0 = .ok (.aload_n 0, 1) := by decide +kernel
theorem dX4_players_1 : decode cX4_players 1 = .ok (.getfield 30, 3) := by decide +kernel
theorem dX4_players_4 : decode cX4_players 4 = .ok (.ireturn, 1) := by decide +kernel
set_option maxRecDepth 20000 in
theorem ggX4_playerInTurn_X4_isOver : GoodIn wsX4_playerInTurn wsX4_isOver := goodIn_r _ [7, 8, 9, 10, 11, 12, 13, 14, 15] (by decide +kernel) (by decide +kernel)
set_option maxRecDepth 20000 in
theorem gX4_playerInTurn_X4_isOver : GoodIn wsX4_playerInTurn (wsV RX4 144 RX4 yX4_isOver wsX4_isOver) := goodIn_app (goodIn_of _ (by decide +kernel)) ggX4_playerInTurn_X4_isOver
theorem dX4_playerInTurn_0 : decode cX4_playerInTurn 0 = .ok (.aload_n 0, 1) := by decide +kernel
theorem dX4_playerInTurn_1 : decode cX4_playerInTurn 1 = .ok (.getfield 30, 3) := by decide +kernel
theorem dX4_playerInTurn_4 : decode cX4_playerInTurn 4 = .ok (.ifCond .eq 10, 3) := by decide +kernel
theorem dX4_playerInTurn_7 : decode cX4_playerInTurn 7 = .ok (.aload_n 0, 1) := by decide +kernel
theorem dX4_playerInTurn_8 : decode cX4_playerInTurn 8 = .ok (.invokevirtual 144, 3) := by decide +kernel
theorem dX4_playerInTurn_11 : decode cX4_playerInTurn 11 = .ok (.ifCond .eq 7, 3) := by decide +kernel
theorem dX4_playerInTurn_14 : decode cX4_playerInTurn 14 = .ok (.iconst (-1), 1) := by decide +kernel
theorem dX4_playerInTurn_15 : decode cX4_playerInTurn 15 = .ok (.goto 7, 3) := by decide +kernel
theorem dX4_playerInTurn_18 : decode cX4_playerInTurn 18 = .ok (.aload_n 0, 1) := by decide +kernel
theorem dX4_playerInTurn_19 : decode cX4_playerInTurn 19 = .ok (.getfield 108, 3) := by decide +kernel
theorem dX4_playerInTurn_22 : decode cX4_playerInTurn 22 = .ok (.ireturn, 1) := by decide +kernel
theorem dX4_frame_0 : decode cX4_frame 0 = .ok (.aload_n 0, 1) := by decide +kernel
theorem dX4_frame_1 : decode cX4_frame 1 = .ok (.getfield 70, 3) := by decide +kernel
theorem dX4_frame_4 : decode cX4_frame 4 = .ok (.ireturn, 1) := by decide +kernel
theorem dX4_throwsInFrame_0 : decode cX4_throwsInFrame 0 = .ok (.aload_n 0, 1) := by decide +kernel
theorem dX4_throwsInFrame_1 : decode cX4_throwsInFrame 1 = .ok (.getfield 77, 3) := by decide +kernel
theorem dX4_throwsInFrame_4 : decode cX4_throwsInFrame 4 = .ok (.ireturn, 1) := by decide +kernel
theorem dX4_isOver_0 : decode cX4_isOver 0 = .ok (.aload_n 0, 1) := by decide +kernel
theorem dX4_isOver_1 : decode cX4_isOver 1 = .ok (.getfield 70, 3) := by decide +kernel
theorem dX4_isOver_4 : decode cX4_isOver 4 = .ok (.bipush 10, 2) := by decide +kernel
theorem dX4_isOver_6 : decode cX4_isOver 6 = .ok (.if_icmp .lt 7, 3) := by decide +kernel
theorem dX4_isOver_9 : decode cX4_isOver 9 = .ok (.iconst 1, 1) := by decide +kernel
theorem dX4_isOver_10 : decode cX4_isOver 10 = .ok (.goto 4, 3) := by decide +kernel
theorem dX4_isOver_13 : decode cX4_isOver 13 = .ok (.iconst 0, 1) := by decide +kernel
theorem dX4_isOver_14 : decode cX4_isOver 14 = .ok (.ireturn, 1) := by decide +kernel
set_option maxRecDepth 20000 in
theorem ggX4_throwsOf_X4_checkPlayer : GoodIn wsX4_throwsOf wsX4_checkPlayer := goodIn_ca (goodIn_r _ [6, 7, 8, 9, 5, 10, 11, 12, 19, 20, 21, 22, 23, 24, 25] (by decide +kernel) (by decide +kernel)) (goodIn_sub (fun _ h => List.mem_cons_of_mem _ (List.mem_append_right _ h)) (by decide +kernel))
set_option maxRecDepth 20000 in
theorem gX4_throwsOf_X4_checkPlayer : GoodIn wsX4_throwsOf (wsV RX4 147 RX4 yX4_checkPlayer wsX4_checkPlayer) := goodIn_app (goodIn_of _ (by decide +kernel)) ggX4_throwsOf_X4_checkPlayer
set_option maxRecDepth 20000 in
theorem ggX4_throwsOf_X3_thrown : GoodIn wsX4_throwsOf wsX3_thrown := goodIn_r _ [17, 18, 26, 27, 28, 29, 30] (by decide +kernel) (by decide +kernel)
set_option maxRecDepth 20000 in
theorem gX4_throwsOf_X3_thrown : GoodIn wsX4_throwsOf (wsV RX4 150 RX3 yX3_thrown wsX3_thrown) := goodIn_app (goodIn_of _ (by decide +kernel)) ggX4_throwsOf_X3_thrown
theorem dX4_throwsOf_0 : decode cX4_throwsOf 0 = .ok (.aload_n 0, 1) := by decide +kernel
theorem dX4_throwsOf_1 : decode cX4_throwsOf 1 = .ok (.iload_n 1, 1) := by decide +kernel
theorem dX4_throwsOf_2 : decode cX4_throwsOf 2 = .ok (.invokevirtual 147, 3) := by decide +kernel
theorem dX4_throwsOf_5 : decode cX4_throwsOf 5 = .ok (.aload_n 0, 1) := by decide +kernel
theorem dX4_throwsOf_6 : decode cX4_throwsOf 6 = .ok (.getfield 25, 3) := by decide +kernel
theorem dX4_throwsOf_9 : decode cX4_throwsOf 9 = .ok (.iload_n 1, 1) := by decide +kernel
theorem dX4_throwsOf_10 : decode cX4_throwsOf 10 = .ok (.aaload, 1) := by decide +kernel
theorem dX4_throwsOf_11 : decode cX4_throwsOf 11 = .ok (.invokevirtual 150, 3) := by decide +kernel
theorem dX4_throwsOf_14 : decode cX4_throwsOf 14 = .ok (.ireturn, 1) := by decide +kernel
set_option maxRecDepth 20000 in
theorem ggX4_scoreOf_X4_checkPlayer : GoodIn wsX4_scoreOf wsX4_checkPlayer := goodIn_ca (goodIn_r _ [6, 7, 8, 9, 5, 10, 11, 12, 31, 32, 33, 34, 35, 36, 37] (by decide +kernel) (by decide +kernel)) (goodIn_sub (fun _ h => List.mem_cons_of_mem _ (List.mem_append_right _ h)) (by decide +kernel))
set_option maxRecDepth 20000 in
theorem gX4_scoreOf_X4_checkPlayer : GoodIn wsX4_scoreOf (wsV RX4 147 RX4 yX4_checkPlayer wsX4_checkPlayer) := goodIn_app (goodIn_of _ (by decide +kernel)) ggX4_scoreOf_X4_checkPlayer
set_option maxRecDepth 20000 in
theorem ggX4_scoreOf_X3_score : GoodIn wsX4_scoreOf wsX3_score := goodIn_r _ [17, 18, 19, 20, 16, 21, 22, 23, 24, 25, 26, 27, 28, 29, 30, 38, 39, 40, 41, 42] (by decide +kernel) (by decide +kernel)
set_option maxRecDepth 20000 in
theorem gX4_scoreOf_X3_score : GoodIn wsX4_scoreOf (wsV RX4 153 RX3 yX3_score wsX3_score) := goodIn_app (goodIn_of _ (by decide +kernel)) ggX4_scoreOf_X3_score
theorem dX4_scoreOf_0 : decode cX4_scoreOf 0 = .ok (.aload_n 0, 1) := by decide +kernel
theorem dX4_scoreOf_1 : decode cX4_scoreOf 1 = .ok (.iload_n 1, 1) := by decide +kernel
theorem dX4_scoreOf_2 : decode cX4_scoreOf 2 = .ok (.invokevirtual 147, 3) := by decide +kernel
theorem dX4_scoreOf_5 : decode cX4_scoreOf 5 = .ok (.aload_n 0, 1) := by decide +kernel
theorem dX4_scoreOf_6 : decode cX4_scoreOf 6 = .ok (.getfield 25, 3) := by decide +kernel
theorem dX4_scoreOf_9 : decode cX4_scoreOf 9 = .ok (.iload_n 1, 1) := by decide +kernel
theorem dX4_scoreOf_10 : decode cX4_scoreOf 10 = .ok (.aaload, 1) := by decide +kernel
theorem dX4_scoreOf_11 : decode cX4_scoreOf 11 = .ok (.invokevirtual 153, 3) := by decide +kernel
theorem dX4_scoreOf_14 : decode cX4_scoreOf 14 = .ok (.ireturn, 1) := by decide +kernel
set_option maxRecDepth 20000 in
theorem ggX4_pointsOf_X4_checkPlayer : GoodIn wsX4_pointsOf wsX4_checkPlayer := goodIn_ca (goodIn_r _ [6, 7, 8, 9, 5, 10, 11, 12, 27, 28, 29, 30, 31, 32, 33] (by decide +kernel) (by decide +kernel)) (goodIn_sub (fun _ h => List.mem_cons_of_mem _ (List.mem_append_right _ h)) (by decide +kernel))
set_option maxRecDepth 20000 in
theorem gX4_pointsOf_X4_checkPlayer : GoodIn wsX4_pointsOf (wsV RX4 147 RX4 yX4_checkPlayer wsX4_checkPlayer) := goodIn_app (goodIn_of _ (by decide +kernel)) ggX4_pointsOf_X4_checkPlayer
set_option maxRecDepth 20000 in
theorem ggX4_pointsOf_X4_checkIndex : GoodIn wsX4_pointsOf wsX4_checkIndex := goodIn_ca (goodIn_r _ [10, 11, 12] (by decide +kernel) (by decide +kernel)) (goodIn_sub (fun _ h => List.mem_cons_of_mem _ (List.mem_append_right _ h)) (by decide +kernel))
set_option maxRecDepth 20000 in
theorem gX4_pointsOf_X4_checkIndex : GoodIn wsX4_pointsOf (va_wsS RX4 156 yX4_checkIndex wsX4_checkIndex) := goodIn_app (goodIn_of _ (by decide +kernel)) ggX4_pointsOf_X4_checkIndex
set_option maxRecDepth 20000 in
theorem ggX4_pointsOf_X3_points : GoodIn wsX4_pointsOf wsX3_points := goodIn_r _ [17, 18, 19, 20, 21, 22, 23, 24, 25, 26, 34, 35, 36, 37, 38] (by decide +kernel) (by decide +kernel)
set_option maxRecDepth 20000 in
theorem gX4_pointsOf_X3_points : GoodIn wsX4_pointsOf (wsV RX4 159 RX3 yX3_points wsX3_points) := goodIn_app (goodIn_of _ (by decide +kernel)) ggX4_pointsOf_X3_points
theorem dX4_pointsOf_0 : decode cX4_pointsOf 0 = .ok (.aload_n 0, 1) := by decide +kernel
theorem dX4_pointsOf_1 : decode cX4_pointsOf 1 = .ok (.iload_n 1, 1) := by decide +kernel
theorem dX4_pointsOf_2 : decode cX4_pointsOf 2 = .ok (.invokevirtual 147, 3) := by decide +kernel
theorem dX4_pointsOf_5 : decode cX4_pointsOf 5 = .ok (.iload_n 2, 1) := by decide +kernel
theorem dX4_pointsOf_6 : decode cX4_pointsOf 6 = .ok (.bipush 10, 2) := by decide +kernel
theorem dX4_pointsOf_8 : decode cX4_pointsOf 8 = .ok (.invokestatic 156, 3) := by decide +kernel
theorem dX4_pointsOf_11 : decode cX4_pointsOf 11 = .ok (.aload_n 0, 1) := by decide +kernel
theorem dX4_pointsOf_12 : decode cX4_pointsOf 12 = .ok (.getfield 25, 3) := by decide +kernel
theorem dX4_pointsOf_15 : decode cX4_pointsOf 15 = .ok (.iload_n 1, 1) := by decide +kernel
theorem dX4_pointsOf_16 : decode cX4_pointsOf 16 = .ok (.aaload, 1) := by decide +kernel
theorem dX4_pointsOf_17 : decode cX4_pointsOf 17 = .ok (.iload_n 2, 1) := by decide +kernel
theorem dX4_pointsOf_18 : decode cX4_pointsOf 18 = .ok (.invokevirtual 159, 3) := by decide +kernel
theorem dX4_pointsOf_21 : decode cX4_pointsOf 21 = .ok (.ireturn, 1) := by decide +kernel
set_option maxRecDepth 20000 in
theorem ggX4_strikesOf_X4_checkPlayer : GoodIn wsX4_strikesOf wsX4_checkPlayer := goodIn_ca (goodIn_r _ [6, 7, 8, 9, 5, 10, 11, 12, 23, 24, 25, 26, 27, 28, 29] (by decide +kernel) (by decide +kernel)) (goodIn_sub (fun _ h => List.mem_cons_of_mem _ (List.mem_append_right _ h)) (by decide +kernel))
set_option maxRecDepth 20000 in
theorem gX4_strikesOf_X4_checkPlayer : GoodIn wsX4_strikesOf (wsV RX4 147 RX4 yX4_checkPlayer wsX4_checkPlayer) := goodIn_app (goodIn_of _ (by decide +kernel)) ggX4_strikesOf_X4_checkPlayer
set_option maxRecDepth 20000 in
theorem ggX4_strikesOf_X3_strikes : GoodIn wsX4_strikesOf wsX3_strikes := goodIn_r _ [17, 18, 19, 20, 16, 21, 22, 30, 31, 32, 33, 34] (by decide +kernel) (by decide +kernel)
set_option maxRecDepth 20000 in
theorem gX4_strikesOf_X3_strikes : GoodIn wsX4_strikesOf (wsV RX4 162 RX3 yX3_strikes wsX3_strikes) := goodIn_app (goodIn_of _ (by decide +kernel)) ggX4_strikesOf_X3_strikes
theorem dX4_strikesOf_0 : decode cX4_strikesOf 0 = .ok (.aload_n 0, 1) := by decide +kernel
theorem dX4_strikesOf_1 : decode cX4_strikesOf 1 = .ok (.iload_n 1, 1) := by decide +kernel
theorem dX4_strikesOf_2 : decode cX4_strikesOf 2 = .ok (.invokevirtual 147, 3) := by decide +kernel
theorem dX4_strikesOf_5 : decode cX4_strikesOf 5 = .ok (.aload_n 0, 1) := by decide +kernel
theorem dX4_strikesOf_6 : decode cX4_strikesOf 6 = .ok (.getfield 25, 3) := by decide +kernel
theorem dX4_strikesOf_9 : decode cX4_strikesOf 9 = .ok (.iload_n 1, 1) := by decide +kernel
theorem dX4_strikesOf_10 : decode cX4_strikesOf 10 = .ok (.aaload, 1) := by decide +kernel
theorem dX4_strikesOf_11 : decode cX4_strikesOf 11 = .ok (.invokevirtual 162, 3) := by decide +kernel
theorem dX4_strikesOf_14 : decode cX4_strikesOf 14 = .ok (.ireturn, 1) := by decide +kernel
set_option maxRecDepth 20000 in
theorem ggX4_sparesOf_X4_checkPlayer : GoodIn wsX4_sparesOf wsX4_checkPlayer := goodIn_ca (goodIn_r _ [6, 7, 8, 9, 5, 10, 11, 12, 23, 24, 25, 26, 27, 28, 29] (by decide +kernel) (by decide +kernel)) (goodIn_sub (fun _ h => List.mem_cons_of_mem _ (List.mem_append_right _ h)) (by decide +kernel))
set_option maxRecDepth 20000 in
theorem gX4_sparesOf_X4_checkPlayer : GoodIn wsX4_sparesOf (wsV RX4 147 RX4 yX4_checkPlayer wsX4_checkPlayer) := goodIn_app (goodIn_of _ (by decide +kernel)) ggX4_sparesOf_X4_checkPlayer
set_option maxRecDepth 20000 in
theorem ggX4_sparesOf_X3_spares : GoodIn wsX4_sparesOf wsX3_spares := goodIn_r _ [17, 18, 19, 20, 16, 21, 22, 30, 31, 32, 33, 34] (by decide +kernel) (by decide +kernel)
set_option maxRecDepth 20000 in
theorem gX4_sparesOf_X3_spares : GoodIn wsX4_sparesOf (wsV RX4 165 RX3 yX3_spares wsX3_spares) := goodIn_app (goodIn_of _ (by decide +kernel)) ggX4_sparesOf_X3_spares
theorem dX4_sparesOf_0 : decode cX4_sparesOf 0 = .ok (.aload_n 0, 1) := by decide +kernel
theorem dX4_sparesOf_1 : decode cX4_sparesOf 1 = .ok (.iload_n 1, 1) := by decide +kernel
theorem dX4_sparesOf_2 : decode cX4_sparesOf 2 = .ok (.invokevirtual 147, 3) := by decide +kernel
theorem dX4_sparesOf_5 : decode cX4_sparesOf 5 = .ok (.aload_n 0, 1) := by decide +kernel
theorem dX4_sparesOf_6 : decode cX4_sparesOf 6 = .ok (.getfield 25, 3) := by decide +kernel
theorem dX4_sparesOf_9 : decode cX4_sparesOf 9 = .ok (.iload_n 1, 1) := by decide +kernel
theorem dX4_sparesOf_10 : decode cX4_sparesOf 10 = .ok (.aaload, 1) := by decide +kernel
theorem dX4_sparesOf_11 : decode cX4_sparesOf 11 = .ok (.invokevirtual 165, 3) := by decide +kernel
theorem dX4_sparesOf_14 : decode cX4_sparesOf 14 = .ok (.ireturn, 1) := by decide +kernel
set_option maxRecDepth 20000 in
theorem ggX4_leader_X3_score : GoodIn wsX4_leader wsX3_score := goodIn_r _ [7, 8, 9, 10, 6, 11, 12, 13, 14, 15, 16, 17, 18, 19, 20, 28, 29, 30, 31, 32] (by decide +kernel) (by decide +kernel)
set_option maxRecDepth 20000 in
theorem gX4_leader_X3_score : GoodIn wsX4_leader (wsV RX4 153 RX3 yX3_score wsX3_score) := goodIn_app (goodIn_of _ (by decide +kernel)) ggX4_leader_X3_score
theorem dX4_leader_0 : decode cX4_leader 0 = .ok (.iconst (-1), 1) := by decide +kernel
theorem dX4_leader_1 : decode cX4_leader 1 = .ok (.istore_n 1, 1) := by decide +kernel
theorem dX4_leader_2 : decode cX4_leader 2 = .ok (.iconst (-1), 1) := by decide +kernel
theorem dX4_leader_3 : decode cX4_leader 3 = .ok (.istore_n 2, 1) := by decide +kernel
theorem dX4_leader_4 : decode cX4_leader 4 = .ok (.iconst 0, 1) := by decide +kernel
theorem dX4_leader_5 : decode cX4_leader 5 = .ok (.istore_n 3, 1) := by decide +kernel
theorem dX4_leader_6 : decode cX4_leader 6 = .ok (.iload_n 3, 1) := by decide +kernel
theorem dX4_leader_7 : decode cX4_leader 7 = .ok (.aload_n 0, 1) := by decide +kernel
theorem dX4_leader_8 : decode cX4_leader 8 = .ok (.getfield 30, 3) := by decide +kernel
theorem dX4_leader_11 : decode cX4_leader 11 = .ok (.if_icmp .ge 31, 3) := by decide +kernel
theorem dX4_leader_14 : decode cX4_leader 14 = .ok (.aload_n 0, 1) := by decide +kernel
theorem dX4_leader_15 : decode cX4_leader 15 = .ok (.getfield 25, 3) := by decide +kernel
theorem dX4_leader_18 : decode cX4_leader 18 = .ok (.iload_n 3, 1) := by decide +kernel
theorem dX4_leader_19 : decode cX4_leader 19 = .ok (.aaload, 1) := by decide +kernel
theorem dX4_leader_20 : decode cX4_leader 20 = .ok (.invokevirtual 153, 3) := by decide +kernel
theorem dX4_leader_23 : decode cX4_leader 23 = .ok (.istore 4, 2) := by decide +kernel
theorem dX4_leader_25 : decode cX4_leader 25 = .ok (.iload 4, 2) := by decide +kernel
theorem dX4_leader_27 : decode cX4_leader 27 = .ok (.iload_n 2, 1) := by decide +kernel
theorem dX4_leader_28 : decode cX4_leader 28 = .ok (.if_icmp .le 8, 3) := by decide +kernel
theorem dX4_leader_31 : decode cX4_leader 31 = .ok (.iload_n 3, 1) := by decide +kernel
theorem dX4_leader_32 : decode cX4_leader 32 = .ok (.istore_n 1, 1) := by decide +kernel
theorem dX4_leader_33 : decode cX4_leader 33 = .ok (.iload 4, 2) := by decide +kernel
theorem dX4_leader_35 : decode cX4_leader 35 = .ok (.istore_n 2, 1) := by decide +kernel
theorem dX4_leader_36 : decode cX4_leader 36 = .ok (.iinc 3 1, 3) := by decide +kernel
theorem dX4_leader_39 : decode cX4_leader 39 = .ok (.goto (-33), 3) := by decide +kernel
theorem dX4_leader_42 : decode cX4_leader 42 = .ok (.iload_n 1, 1) := by decide +kernel
theorem dX4_leader_43 : decode cX4_leader 43 = .ok (.ireturn, 1) := by decide +kernel
set_option maxRecDepth 20000 in
theorem ggX4_wouldFall_X4_checkThrow : GoodIn wsX4_wouldFall wsX4_checkThrow := goodIn_ca (goodIn_r _ [5, 6, 7, 4, 8, 9, 10, 11, 12, 13] (by decide +kernel) (by decide +kernel)) (goodIn_sub (fun _ h => List.mem_cons_of_mem _ (List.mem_append_right _ h)) (by decide +kernel))
set_option maxRecDepth 20000 in
theorem gX4_wouldFall_X4_checkThrow : GoodIn wsX4_wouldFall (va_wsS RX4 45 yX4_checkThrow wsX4_checkThrow) := goodIn_app (goodIn_of _ (by decide +kernel)) ggX4_wouldFall_X4_checkThrow
set_option maxRecDepth 20000 in
theorem ggX4_wouldFall_X0_standingPins : GoodIn wsX4_wouldFall wsX0_standingPins := goodIn_r _ [18, 19, 48, 49, 50] (by decide +kernel) (by decide +kernel)
set_option maxRecDepth 20000 in
theorem gX4_wouldFall_X0_standingPins : GoodIn wsX4_wouldFall (wsV RX4 67 RX0 yX0_standingPins wsX0_standingPins) := goodIn_app (goodIn_of _ (by decide +kernel)) ggX4_wouldFall_X0_standingPins
set_option maxRecDepth 20000 in
theorem ggX4_wouldFall_X1_felled : GoodIn wsX4_wouldFall wsX1_felled := goodIn_r _ [23, 24, 25, 22, 26, 27, 28, 29, 30, 31, 32, 33] (by decide +kernel) (by decide +kernel)
set_option maxRecDepth 20000 in
theorem gX4_wouldFall_X1_felled : GoodIn wsX4_wouldFall (va_wsS RX4 166 yX1_felled wsX1_felled) := goodIn_app (goodIn_of _ (by decide +kernel)) ggX4_wouldFall_X1_felled
set_option maxRecDepth 20000 in
theorem ggX4_wouldFall_J6_bitCount_0f7a4 : GoodIn wsX4_wouldFall wsJ6_bitCount_0f7a4 := goodIn_r _ [37, 38, 39, 40] (by decide +kernel) (by decide +kernel)
set_option maxRecDepth 20000 in
theorem gX4_wouldFall_J6_bitCount_0f7a4 : GoodIn wsX4_wouldFall (va_wsS RX4 123 yJ6_bitCount_0f7a4 wsJ6_bitCount_0f7a4) := goodIn_app (goodIn_of _ (by decide +kernel)) ggX4_wouldFall_J6_bitCount_0f7a4
theorem dX4_wouldFall_0 : decode cX4_wouldFall 0 = .ok (.iload_n 1, 1) := by decide +kernel
theorem dX4_wouldFall_1 : decode cX4_wouldFall 1 = .ok (.iload_n 2, 1) := by decide +kernel
theorem dX4_wouldFall_2 : decode cX4_wouldFall 2 = .ok (.invokestatic 45, 3) := by decide +kernel
theorem dX4_wouldFall_5 : decode cX4_wouldFall 5 = .ok (.aload_n 0, 1) := by decide +kernel
theorem dX4_wouldFall_6 : decode cX4_wouldFall 6 = .ok (.getfield 10, 3) := by decide +kernel
theorem dX4_wouldFall_9 : decode cX4_wouldFall 9 = .ok (.invokevirtual 67, 3) := by decide +kernel
theorem dX4_wouldFall_12 : decode cX4_wouldFall 12 = .ok (.iload_n 1, 1) := by decide +kernel
theorem dX4_wouldFall_13 : decode cX4_wouldFall 13 = .ok (.iload_n 2, 1) := by decide +kernel
theorem dX4_wouldFall_14 : decode cX4_wouldFall 14 = .ok (.invokestatic 166, 3) := by decide +kernel
theorem dX4_wouldFall_17 : decode cX4_wouldFall 17 = .ok (.invokestatic 123, 3) := by decide +kernel
theorem dX4_wouldFall_20 : decode cX4_wouldFall 20 = .ok (.ireturn, 1) := by decide +kernel
set_option maxRecDepth 20000 in
theorem ggX4_lastToFall_X4_checkThrow : GoodIn wsX4_lastToFall wsX4_checkThrow := goodIn_ca (goodIn_r _ [5, 6, 7, 4, 8, 9, 10, 11, 12, 13] (by decide +kernel) (by decide +kernel)) (goodIn_sub (fun _ h => List.mem_cons_of_mem _ (List.mem_append_right _ h)) (by decide +kernel))
set_option maxRecDepth 20000 in
theorem gX4_lastToFall_X4_checkThrow : GoodIn wsX4_lastToFall (va_wsS RX4 45 yX4_checkThrow wsX4_checkThrow) := goodIn_app (goodIn_of _ (by decide +kernel)) ggX4_lastToFall_X4_checkThrow
set_option maxRecDepth 20000 in
theorem ggX4_lastToFall_X0_standingPins : GoodIn wsX4_lastToFall wsX0_standingPins := goodIn_r _ [18, 19, 44, 45, 46] (by decide +kernel) (by decide +kernel)
set_option maxRecDepth 20000 in
theorem gX4_lastToFall_X0_standingPins : GoodIn wsX4_lastToFall (wsV RX4 67 RX0 yX0_standingPins wsX0_standingPins) := goodIn_app (goodIn_of _ (by decide +kernel)) ggX4_lastToFall_X0_standingPins
set_option maxRecDepth 20000 in
theorem ggX4_lastToFall_X1_felled : GoodIn wsX4_lastToFall wsX1_felled := goodIn_r _ [23, 24, 25, 22, 26, 27, 28, 29, 30, 31, 32, 33] (by decide +kernel) (by decide +kernel)
set_option maxRecDepth 20000 in
theorem gX4_lastToFall_X1_felled : GoodIn wsX4_lastToFall (va_wsS RX4 166 yX1_felled wsX1_felled) := goodIn_app (goodIn_of _ (by decide +kernel)) ggX4_lastToFall_X1_felled
set_option maxRecDepth 20000 in
theorem ggX4_lastToFall_X1_last : GoodIn wsX4_lastToFall wsX1_last := goodIn_r _ [36, 31, 32, 22, 33] (by decide +kernel) (by decide +kernel)
set_option maxRecDepth 20000 in
theorem gX4_lastToFall_X1_last : GoodIn wsX4_lastToFall (va_wsS RX4 170 yX1_last wsX1_last) := goodIn_app (goodIn_of _ (by decide +kernel)) ggX4_lastToFall_X1_last
theorem dX4_lastToFall_0 : decode cX4_lastToFall 0 = .ok (.iload_n 1, 1) := by decide +kernel
theorem dX4_lastToFall_1 : decode cX4_lastToFall 1 = .ok (.iload_n 2, 1) := by decide +kernel
theorem dX4_lastToFall_2 : decode cX4_lastToFall 2 = .ok (.invokestatic 45, 3) := by decide +kernel
theorem dX4_lastToFall_5 : decode cX4_lastToFall 5 = .ok (.aload_n 0, 1) := by decide +kernel
theorem dX4_lastToFall_6 : decode cX4_lastToFall 6 = .ok (.getfield 10, 3) := by decide +kernel
theorem dX4_lastToFall_9 : decode cX4_lastToFall 9 = .ok (.invokevirtual 67, 3) := by decide +kernel
theorem dX4_lastToFall_12 : decode cX4_lastToFall 12 = .ok (.iload_n 1, 1) := by decide +kernel
theorem dX4_lastToFall_13 : decode cX4_lastToFall 13 = .ok (.iload_n 2, 1) := by decide +kernel
theorem dX4_lastToFall_14 : decode cX4_lastToFall 14 = .ok (.invokestatic 166, 3) := by decide +kernel
theorem dX4_lastToFall_17 : decode cX4_lastToFall 17 = .ok (.invokestatic 170, 3) := by decide +kernel
theorem dX4_lastToFall_20 : decode cX4_lastToFall 20 = .ok (.ireturn, 1) := by decide +kernel
set_option maxRecDepth 20000 in
theorem ggX4_bestThrow_X2_throwsAway : GoodIn wsX4_bestThrow wsX2_throwsAway := goodIn_r _ [7, 8, 43] (by decide +kernel) (by decide +kernel)
set_option maxRecDepth 20000 in
theorem gX4_bestThrow_X2_throwsAway : GoodIn wsX4_bestThrow (wsV RX4 53 RX2 yX2_throwsAway wsX2_throwsAway) := goodIn_app (goodIn_of _ (by decide +kernel)) ggX4_bestThrow_X2_throwsAway
set_option maxRecDepth 20000 in
theorem ggX4_bestThrow_X0_standingPins : GoodIn wsX4_bestThrow wsX0_standingPins := goodIn_r _ [13, 14, 44, 45, 46] (by decide +kernel) (by decide +kernel)
set_option maxRecDepth 20000 in
theorem gX4_bestThrow_X0_standingPins : GoodIn wsX4_bestThrow (wsV RX4 67 RX0 yX0_standingPins wsX0_standingPins) := goodIn_app (goodIn_of _ (by decide +kernel)) ggX4_bestThrow_X0_standingPins
set_option maxRecDepth 20000 in
theorem ggX4_bestThrow_X1_felled : GoodIn wsX4_bestThrow wsX1_felled := goodIn_r _ [18, 19, 20, 17, 21, 22, 23, 24, 25, 26, 27, 28] (by decide +kernel) (by decide +kernel)
set_option maxRecDepth 20000 in
theorem gX4_bestThrow_X1_felled : GoodIn wsX4_bestThrow (va_wsS RX4 166 yX1_felled wsX1_felled) := goodIn_app (goodIn_of _ (by decide +kernel)) ggX4_bestThrow_X1_felled
set_option maxRecDepth 20000 in
theorem ggX4_bestThrow_J6_bitCount_0f7a4 : GoodIn wsX4_bestThrow wsJ6_bitCount_0f7a4 := goodIn_r _ [32, 33, 34, 35] (by decide +kernel) (by decide +kernel)
set_option maxRecDepth 20000 in
theorem gX4_bestThrow_J6_bitCount_0f7a4 : GoodIn wsX4_bestThrow (va_wsS RX4 123 yJ6_bitCount_0f7a4 wsJ6_bitCount_0f7a4) := goodIn_app (goodIn_of _ (by decide +kernel)) ggX4_bestThrow_J6_bitCount_0f7a4
theorem dX4_bestThrow_0 : decode cX4_bestThrow 0 = .ok (.iconst (-1), 1) := by decide +kernel
theorem dX4_bestThrow_1 : decode cX4_bestThrow 1 = .ok (.istore_n 1, 1) := by decide +kernel
theorem dX4_bestThrow_2 : decode cX4_bestThrow 2 = .ok (.iconst (-1), 1) := by decide +kernel
theorem dX4_bestThrow_3 : decode cX4_bestThrow 3 = .ok (.istore_n 2, 1) := by decide +kernel
theorem dX4_bestThrow_4 : decode cX4_bestThrow 4 = .ok (.iconst 0, 1) := by decide +kernel
theorem dX4_bestThrow_5 : decode cX4_bestThrow 5 = .ok (.istore_n 3, 1) := by decide +kernel
theorem dX4_bestThrow_6 : decode cX4_bestThrow 6 = .ok (.iload_n 3, 1) := by decide +kernel
theorem dX4_bestThrow_7 : decode cX4_bestThrow 7 = .ok (.iconst 5, 1) := by decide +kernel
theorem dX4_bestThrow_8 : decode cX4_bestThrow 8 = .ok (.if_icmp .ge 70, 3) := by decide +kernel
theorem dX4_bestThrow_11 : decode cX4_bestThrow 11 = .ok (.iconst 0, 1) := by decide +kernel
theorem dX4_bestThrow_12 : decode cX4_bestThrow 12 = .ok (.istore 4, 2) := by decide +kernel
theorem dX4_bestThrow_14 : decode cX4_bestThrow 14 = .ok (.iload 4, 2) := by decide +kernel
theorem dX4_bestThrow_16 : decode cX4_bestThrow 16 = .ok (.iconst 5, 1) := by decide +kernel
theorem dX4_bestThrow_17 : decode cX4_bestThrow 17 = .ok (.if_icmp .ge 55, 3) := by decide +kernel
theorem dX4_bestThrow_20 : decode cX4_bestThrow 20 = .ok (.aload_n 0, 1) := by decide +kernel
theorem dX4_bestThrow_21 : decode cX4_bestThrow 21 = .ok (.getfield 19, 3) := by decide +kernel
theorem dX4_bestThrow_24 : decode cX4_bestThrow 24 = .ok (.iload_n 3, 1) := by decide +kernel
theorem dX4_bestThrow_25 : decode cX4_bestThrow 25 = .ok (.invokevirtual 53, 3) := by decide +kernel
theorem dX4_bestThrow_28 : decode cX4_bestThrow 28 = .ok (.ifCond .ne 44, 3) := by decide +kernel
theorem dX4_bestThrow_31 : decode cX4_bestThrow 31 = .ok (.aload_n 0, 1) := by decide +kernel
theorem dX4_bestThrow_32 : decode cX4_bestThrow 32 = .ok (.getfield 10, 3) := by decide +kernel
theorem dX4_bestThrow_35 : decode cX4_bestThrow 35 = .ok (.invokevirtual 67, 3) := by decide +kernel
theorem dX4_bestThrow_38 : decode cX4_bestThrow 38 = .ok (.iload_n 3, 1) := by decide +kernel
theorem dX4_bestThrow_39 : decode cX4_bestThrow 39 = .ok (.iload 4, 2) := by decide +kernel
theorem dX4_bestThrow_41 : decode cX4_bestThrow 41 = .ok (.invokestatic 166, 3) := by decide +kernel
theorem dX4_bestThrow_44 : decode cX4_bestThrow 44 = .ok (.invokestatic 123, 3) := by decide +kernel
theorem dX4_bestThrow_47 : decode cX4_bestThrow 47 = .ok (.istore 5, 2) := by decide +kernel
theorem dX4_bestThrow_49 : decode cX4_bestThrow 49 = .ok (.iload 5, 2) := by decide +kernel
theorem dX4_bestThrow_51 : decode cX4_bestThrow 51 = .ok (.iload_n 2, 1) := by decide +kernel
theorem dX4_bestThrow_52 : decode cX4_bestThrow 52 = .ok (.if_icmp .le 14, 3) := by decide +kernel
theorem dX4_bestThrow_55 : decode cX4_bestThrow 55 = .ok (.bipush 10, 2) := by decide +kernel
theorem dX4_bestThrow_57 : decode cX4_bestThrow 57 = .ok (.iload_n 3, 1) := by decide +kernel
theorem dX4_bestThrow_58 : decode cX4_bestThrow 58 = .ok (.imul, 1) := by decide +kernel
theorem dX4_bestThrow_59 : decode cX4_bestThrow 59 = .ok (.iload 4, 2) := by decide +kernel
theorem dX4_bestThrow_61 : decode cX4_bestThrow 61 = .ok (.iadd, 1) := by decide +kernel
theorem dX4_bestThrow_62 : decode cX4_bestThrow 62 = .ok (.istore_n 1, 1) := by decide +kernel
theorem dX4_bestThrow_63 : decode cX4_bestThrow 63 = .ok (.iload 5, 2) := by decide +kernel
theorem dX4_bestThrow_65 : decode cX4_bestThrow 65 = .ok (.istore_n 2, 1) := by decide +kernel
theorem dX4_bestThrow_66 : decode cX4_bestThrow 66 = .ok (.iinc 4 1, 3) := by decide +kernel
theorem dX4_bestThrow_69 : decode cX4_bestThrow 69 = .ok (.goto (-55), 3) := by decide +kernel
theorem dX4_bestThrow_72 : decode cX4_bestThrow 72 = .ok (.iinc 3 1, 3) := by decide +kernel
theorem dX4_bestThrow_75 : decode cX4_bestThrow 75 = .ok (.goto (-69), 3) := by decide +kernel
theorem dX4_bestThrow_78 : decode cX4_bestThrow 78 = .ok (.iload_n 1, 1) := by decide +kernel
theorem dX4_bestThrow_79 : decode cX4_bestThrow 79 = .ok (.ireturn, 1) := by decide +kernel
set_option maxRecDepth 20000 in
theorem ggX4_throwsToClear_X0_standingPins : GoodIn wsX4_throwsToClear wsX0_standingPins := goodIn_r _ [6, 7, 32, 33, 34] (by decide +kernel) (by decide +kernel)
set_option maxRecDepth 20000 in
theorem gX4_throwsToClear_X0_standingPins : GoodIn wsX4_throwsToClear (wsV RX4 67 RX0 yX0_standingPins wsX0_standingPins) := goodIn_app (goodIn_of _ (by decide +kernel)) ggX4_throwsToClear_X0_standingPins
set_option maxRecDepth 20000 in
theorem ggX4_throwsToClear_X1_canClear : GoodIn wsX4_throwsToClear wsX1_canClear := goodIn_r _ [10, 11, 12, 9, 13, 14, 15, 16, 17, 18, 19, 20, 21, 22, 23, 24, 8] (by decide +kernel) (by decide +kernel)
set_option maxRecDepth 20000 in
theorem gX4_throwsToClear_X1_canClear_n173 : GoodIn wsX4_throwsToClear (wsX1_canClear) := ggX4_throwsToClear_X1_canClear
theorem dX4_throwsToClear_0 : decode cX4_throwsToClear 0 = .ok (.iconst 0, 1) := by decide +kernel
theorem dX4_throwsToClear_1 : decode cX4_throwsToClear 1 = .ok (.istore_n 1, 1) := by decide +kernel
theorem dX4_throwsToClear_2 : decode cX4_throwsToClear 2 = .ok (.iload_n 1, 1) := by decide +kernel
theorem dX4_throwsToClear_3 : decode cX4_throwsToClear 3 = .ok (.iconst 3, 1) := by decide +kernel
theorem dX4_throwsToClear_4 : decode cX4_throwsToClear 4 = .ok (.if_icmp .gt 26, 3) := by decide +kernel
theorem dX4_throwsToClear_7 : decode cX4_throwsToClear 7 = .ok (.aload_n 0, 1) := by decide +kernel
theorem dX4_throwsToClear_8 : decode cX4_throwsToClear 8 = .ok (.getfield 10, 3) := by decide +kernel
theorem dX4_throwsToClear_11 : decode cX4_throwsToClear 11 = .ok (.invokevirtual 67, 3) := by decide +kernel
theorem dX4_throwsToClear_14 : decode cX4_throwsToClear 14 = .ok (.iconst 0, 1) := by decide +kernel
theorem dX4_throwsToClear_15 : decode cX4_throwsToClear 15 = .ok (.iload_n 1, 1) := by decide +kernel
theorem dX4_throwsToClear_16 : decode cX4_throwsToClear 16 = .ok (.invokestatic 173, 3) := by decide +kernel
theorem dX4_throwsToClear_19 : decode cX4_throwsToClear 19 = .ok (.ifCond .eq 5, 3) := by decide +kernel
theorem dX4_throwsToClear_22 : decode cX4_throwsToClear 22 = .ok (.iload_n 1, 1) := by decide +kernel
theorem dX4_throwsToClear_23 : decode cX4_throwsToClear 23 = .ok (.ireturn, 1) := by decide +kernel
theorem dX4_throwsToClear_24 : decode cX4_throwsToClear 24 = .ok (.iinc 1 1, 3) := by decide +kernel
theorem dX4_throwsToClear_27 : decode cX4_throwsToClear 27 = .ok (.goto (-25), 3) := by decide +kernel
theorem dX4_throwsToClear_30 : decode cX4_throwsToClear 30 = .ok (.iconst (-1), 1) := by decide +kernel
theorem dX4_throwsToClear_31 : decode cX4_throwsToClear 31 = .ok (.ireturn, 1) := by decide +kernel
set_option maxRecDepth 20000 in
theorem ggX4_wouldBreak_X0_brokenIfAllFell : GoodIn wsX4_wouldBreak wsX0_brokenIfAllFell := goodIn_r _ [6, 7, 8, 9, 10, 11, 12, 20, 21, 22] (by decide +kernel) (by decide +kernel)
set_option maxRecDepth 20000 in
theorem gX4_wouldBreak_X0_brokenIfAllFell : GoodIn wsX4_wouldBreak (wsV RX4 177 RX0 yX0_brokenIfAllFell wsX0_brokenIfAllFell) := goodIn_app (goodIn_of _ (by decide +kernel)) ggX4_wouldBreak_X0_brokenIfAllFell
theorem dX4_wouldBreak_0 : decode cX4_wouldBreak 0 = .ok (.aload_n 0, 1) := by decide +kernel
theorem dX4_wouldBreak_1 : decode cX4_wouldBreak 1 = .ok (.getfield 10, 3) := by decide +kernel
theorem dX4_wouldBreak_4 : decode cX4_wouldBreak 4 = .ok (.invokevirtual 177, 3) := by decide +kernel
theorem dX4_wouldBreak_7 : decode cX4_wouldBreak 7 = .ok (.ireturn, 1) := by decide +kernel
set_option maxRecDepth 20000 in
theorem ggX4_meanScore_X3_score : GoodIn wsX4_meanScore wsX3_score := goodIn_r _ [7, 8, 9, 10, 6, 11, 12, 13, 14, 15, 16, 17, 18, 19, 20, 28, 29, 30, 31, 32] (by decide +kernel) (by decide +kernel)
set_option maxRecDepth 20000 in
theorem gX4_meanScore_X3_score : GoodIn wsX4_meanScore (wsV RX4 153 RX3 yX3_score wsX3_score) := goodIn_app (goodIn_of _ (by decide +kernel)) ggX4_meanScore_X3_score
theorem dX4_meanScore_0 : decode cX4_meanScore 0 = .ok (.aload_n 0, 1) := by decide +kernel
theorem dX4_meanScore_1 : decode cX4_meanScore 1 = .ok (.getfield 30, 3) := by decide +kernel
theorem dX4_meanScore_4 : decode cX4_meanScore 4 = .ok (.ifCond .ne 5, 3) := by decide +kernel
theorem dX4_meanScore_7 : decode cX4_meanScore 7 = .ok (.dconst 0, 1) := by decide +kernel
theorem dX4_meanScore_8 : decode cX4_meanScore 8 = .ok (.dreturn, 1) := by decide +kernel
theorem dX4_meanScore_9 : decode cX4_meanScore 9 = .ok (.iconst 0, 1) := by decide +kernel
theorem dX4_meanScore_10 : decode cX4_meanScore 10 = .ok (.istore_n 1, 1) := by decide +kernel
theorem dX4_meanScore_11 : decode cX4_meanScore 11 = .ok (.iconst 0, 1) := by decide +kernel
theorem dX4_meanScore_12 : decode cX4_meanScore 12 = .ok (.istore_n 2, 1) := by decide +kernel
theorem dX4_meanScore_13 : decode cX4_meanScore 13 = .ok (.iload_n 2, 1) := by decide +kernel
theorem dX4_meanScore_14 : decode cX4_meanScore 14 = .ok (.aload_n 0, 1) := by decide +kernel
theorem dX4_meanScore_15 : decode cX4_meanScore 15 = .ok (.getfield 30, 3) := by decide +kernel
theorem dX4_meanScore_18 : decode cX4_meanScore 18 = .ok (.if_icmp .ge 21, 3) := by decide +kernel
theorem dX4_meanScore_21 : decode cX4_meanScore 21 = .ok (.iload_n 1, 1) := by decide +kernel
theorem dX4_meanScore_22 : decode cX4_meanScore 22 = .ok (.aload_n 0, 1) := by decide +kernel
theorem dX4_meanScore_23 : decode cX4_meanScore 23 = .ok (.getfield 25, 3) := by decide +kernel
theorem dX4_meanScore_26 : decode cX4_meanScore 26 = .ok (.iload_n 2, 1) := by decide +kernel
theorem dX4_meanScore_27 : decode cX4_meanScore 27 = .ok (.aaload, 1) := by decide +kernel
theorem dX4_meanScore_28 : decode cX4_meanScore 28 = .ok (.invokevirtual 153, 3) := by decide +kernel
theorem dX4_meanScore_31 : decode cX4_meanScore 31 = .ok (.iadd, 1) := by decide +kernel
theorem dX4_meanScore_32 : decode cX4_meanScore 32 = .ok (.istore_n 1, 1) := by decide +kernel
theorem dX4_meanScore_33 : decode cX4_meanScore 33 = .ok (.iinc 2 1, 3) := by decide +kernel
theorem dX4_meanScore_36 : decode cX4_meanScore 36 = .ok (.goto (-23), 3) := by decide +kernel
theorem dX4_meanScore_39 : decode cX4_meanScore 39 = .ok (.iload_n 1, 1) := by decide +kernel
theorem dX4_meanScore_40 : decode cX4_meanScore 40 = .ok (.i2d, 1) := by decide +kernel
theorem dX4_meanScore_41 : decode cX4_meanScore 41 = .ok (.aload_n 0, 1) := by decide +kernel
theorem dX4_meanScore_42 : decode cX4_meanScore 42 = .ok (.getfield 30, 3) := by decide +kernel
theorem dX4_meanScore_45 : decode cX4_meanScore 45 = .ok (.i2d, 1) := by decide +kernel
theorem dX4_meanScore_46 : decode cX4_meanScore 46 = .ok (.ddiv, 1) := by decide +kernel
theorem dX4_meanScore_47 : decode cX4_meanScore 47 = .ok (.dreturn, 1) := by decide +kernel
set_option maxRecDepth 20000 in
theorem ggX4_digest_X4_playerInTurn : GoodIn wsX4_digest wsX4_playerInTurn := goodIn_r _ [13, 3, 14, 15, 16, 17, 12, 18, 4, 116, 117, 118, 119, 120, 121, 122] (by decide +kernel) (by decide +kernel)
set_option maxRecDepth 20000 in
theorem gX4_digest_X4_playerInTurn : GoodIn wsX4_digest (wsV RX4 49 RX4 yX4_playerInTurn wsX4_playerInTurn) := goodIn_app (goodIn_of _ (by decide +kernel)) ggX4_digest_X4_playerInTurn
set_option maxRecDepth 20000 in
theorem ggX4_digest_X0_spares : GoodIn wsX4_digest wsX0_spares := goodIn_r _ [23, 24, 123, 124, 125] (by decide +kernel) (by decide +kernel)
set_option maxRecDepth 20000 in
theorem gX4_digest_X0_spares : GoodIn wsX4_digest (wsV RX4 86 RX0 yX0_spares wsX0_spares) := goodIn_app (goodIn_of _ (by decide +kernel)) ggX4_digest_X0_spares
set_option maxRecDepth 20000 in
theorem ggX4_digest_X4_bestThrow : GoodIn wsX4_digest wsX4_bestThrow := goodIn_r _ [28, 7, 6, 29, 30, 31, 32, 33, 34, 35, 36, 37, 22, 38, 39, 40, 41, 42, 43, 44, 45, 46, 47, 48, 49, 50, 51, 52, 53, 54, 55, 56, 57, 58, 59, 60, 116, 117, 118, 119, 120, 121, 122, 126, 123, 124, 125] (by decide +kernel) (by decide +kernel)
set_option maxRecDepth 20000 in
theorem gX4_digest_X4_bestThrow : GoodIn wsX4_digest (wsV RX4 184 RX4 yX4_bestThrow wsX4_bestThrow) := goodIn_app (goodIn_of _ (by decide +kernel)) ggX4_digest_X4_bestThrow
set_option maxRecDepth 20000 in
theorem ggX4_digest_X4_throwsToClear : GoodIn wsX4_digest wsX4_throwsToClear := goodIn_r _ [64, 6, 35, 36, 37, 22, 38, 39, 65, 42, 66, 51, 52, 53, 67, 41, 43, 44, 45, 46, 47, 48, 49, 50, 68, 116, 117, 118, 119, 120, 121, 122, 123, 124, 125] (by decide +kernel) (by decide +kernel)
set_option maxRecDepth 20000 in
theorem gX4_digest_X4_throwsToClear : GoodIn wsX4_digest (wsV RX4 187 RX4 yX4_throwsToClear wsX4_throwsToClear) := goodIn_app (goodIn_of _ (by decide +kernel)) ggX4_digest_X4_throwsToClear
set_option maxRecDepth 20000 in
theorem ggX4_digest_X0_digestOn : GoodIn wsX4_digest wsX0_digestOn := goodIn_r _ [72, 73, 39, 74, 75, 52, 42, 53, 123, 124, 125] (by decide +kernel) (by decide +kernel)
set_option maxRecDepth 20000 in
theorem gX4_digest_X0_digestOn : GoodIn wsX4_digest (wsV RX4 190 RX0 yX0_digestOn wsX0_digestOn) := goodIn_app (goodIn_of _ (by decide +kernel)) ggX4_digest_X0_digestOn
set_option maxRecDepth 20000 in
theorem ggX4_digest_X2_digestOn : GoodIn wsX4_digest wsX2_digestOn := goodIn_r _ [79, 80, 34, 126] (by decide +kernel) (by decide +kernel)
set_option maxRecDepth 20000 in
theorem gX4_digest_X2_digestOn : GoodIn wsX4_digest (wsV RX4 194 RX2 yX2_digestOn wsX2_digestOn) := goodIn_app (goodIn_of _ (by decide +kernel)) ggX4_digest_X2_digestOn
set_option maxRecDepth 20000 in
theorem ggX4_digest_X3_digestOn : GoodIn wsX4_digest wsX3_digestOn := goodIn_r _ [85, 86, 87, 88, 89, 90, 84, 91, 92, 93, 94, 95, 96, 97, 98, 99, 100, 101, 102, 103, 104, 105, 106, 107, 108, 109, 110, 111, 112, 113, 114, 115, 127, 128, 129, 130, 131] (by decide +kernel) (by decide +kernel)
set_option maxRecDepth 20000 in
theorem gX4_digest_X3_digestOn : GoodIn wsX4_digest (wsV RX4 195 RX3 yX3_digestOn wsX3_digestOn) := goodIn_app (goodIn_of _ (by decide +kernel)) ggX4_digest_X3_digestOn
theorem dX4_digest_0 : decode cX4_digest 0 = .ok (.ldc2_w 180, 3) := by decide +kernel
theorem dX4_digest_3 : decode cX4_digest 3 = .ok (.lstore_n 1, 1) := by decide +kernel
theorem dX4_digest_4 : decode cX4_digest 4 = .ok (.lload_n 1, 1) := by decide +kernel
theorem dX4_digest_5 : decode cX4_digest 5 = .ok (.ldc2_w 182, 3) := by decide +kernel
theorem dX4_digest_8 : decode cX4_digest 8 = .ok (.lmul, 1) := by decide +kernel
theorem dX4_digest_9 : decode cX4_digest 9 = .ok (.aload_n 0, 1) := by decide +kernel
theorem dX4_digest_10 : decode cX4_digest 10 = .ok (.getfield 30, 3) := by decide +kernel
theorem dX4_digest_13 : decode cX4_digest 13 = .ok (.i2l, 1) := by decide +kernel
theorem dX4_digest_14 : decode cX4_digest 14 = .ok (.ladd, 1) := by decide +kernel
theorem dX4_digest_15 : decode cX4_digest 15 = .ok (.lstore_n 1, 1) := by decide +kernel
theorem dX4_digest_16 : decode cX4_digest 16 = .ok (.lload_n 1, 1) := by decide +kernel
theorem dX4_digest_17 : decode cX4_digest 17 = .ok (.ldc2_w 182, 3) := by decide +kernel
theorem dX4_digest_20 : decode cX4_digest 20 = .ok (.lmul, 1) := by decide +kernel
theorem dX4_digest_21 : decode cX4_digest 21 = .ok (.aload_n 0, 1) := by decide +kernel
theorem dX4_digest_22 : decode cX4_digest 22 = .ok (.invokevirtual 49, 3) := by decide +kernel
theorem dX4_digest_25 : decode cX4_digest 25 = .ok (.i2l, 1) := by decide +kernel
theorem dX4_digest_26 : decode cX4_digest 26 = .ok (.ladd, 1) := by decide +kernel
theorem dX4_digest_27 : decode cX4_digest 27 = .ok (.lstore_n 1, 1) := by decide +kernel
theorem dX4_digest_28 : decode cX4_digest 28 = .ok (.lload_n 1, 1) := by decide +kernel
theorem dX4_digest_29 : decode cX4_digest 29 = .ok (.ldc2_w 182, 3) := by decide +kernel
theorem dX4_digest_32 : decode cX4_digest 32 = .ok (.lmul, 1) := by decide +kernel
theorem dX4_digest_33 : decode cX4_digest 33 = .ok (.aload_n 0, 1) := by decide +kernel
theorem dX4_digest_34 : decode cX4_digest 34 = .ok (.getfield 70, 3) := by decide +kernel
theorem dX4_digest_37 : decode cX4_digest 37 = .ok (.i2l, 1) := by decide +kernel
theorem dX4_digest_38 : decode cX4_digest 38 = .ok (.ladd, 1) := by decide +kernel
theorem dX4_digest_39 : decode cX4_digest 39 = .ok (.lstore_n 1, 1) := by decide +kernel
theorem dX4_digest_40 : decode cX4_digest 40 = .ok (.lload_n 1, 1) := by decide +kernel
theorem dX4_digest_41 : decode cX4_digest 41 = .ok (.ldc2_w 182, 3) := by decide +kernel
theorem dX4_digest_44 : decode cX4_digest 44 = .ok (.lmul, 1) := by decide +kernel
theorem dX4_digest_45 : decode cX4_digest 45 = .ok (.aload_n 0, 1) := by decide +kernel
theorem dX4_digest_46 : decode cX4_digest 46 = .ok (.getfield 77, 3) := by decide +kernel
theorem dX4_digest_49 : decode cX4_digest 49 = .ok (.i2l, 1) := by decide +kernel
theorem dX4_digest_50 : decode cX4_digest 50 = .ok (.ladd, 1) := by decide +kernel
theorem dX4_digest_51 : decode cX4_digest 51 = .ok (.lstore_n 1, 1) := by decide +kernel
theorem dX4_digest_52 : decode cX4_digest 52 = .ok (.lload_n 1, 1) := by decide +kernel
theorem dX4_digest_53 : decode cX4_digest 53 = .ok (.ldc2_w 182, 3) := by decide +kernel
theorem dX4_digest_56 : decode cX4_digest 56 = .ok (.lmul, 1) := by decide +kernel
theorem dX4_digest_57 : decode cX4_digest 57 = .ok (.aload_n 0, 1) := by decide +kernel
theorem dX4_digest_58 : decode cX4_digest 58 = .ok (.getfield 10, 3) := by decide +kernel
theorem dX4_digest_61 : decode cX4_digest 61 = .ok (.invokevirtual 86, 3) := by decide +kernel
theorem dX4_digest_64 : decode cX4_digest 64 = .ok (.i2l, 1) := by decide +kernel
theorem dX4_digest_65 : decode cX4_digest 65 = .ok (.ladd, 1) := by decide +kernel
theorem dX4_digest_66 : decode cX4_digest 66 = .ok (.lstore_n 1, 1) := by decide +kernel
theorem dX4_digest_67 : decode cX4_digest 67 = .ok (.lload_n 1, 1) := by decide +kernel
theorem dX4_digest_68 : decode cX4_digest 68 = .ok (.ldc2_w 182, 3) := by decide +kernel
theorem dX4_digest_71 : decode cX4_digest 71 = .ok (.lmul, 1) := by decide +kernel
theorem dX4_digest_72 : decode cX4_digest 72 = .ok (.aload_n 0, 1) := by decide +kernel
theorem dX4_digest_73 : decode cX4_digest 73 = .ok (.invokevirtual 184, 3) := by decide +kernel
theorem dX4_digest_76 : decode cX4_digest 76 = .ok (.i2l, 1) := by decide +kernel
theorem dX4_digest_77 : decode cX4_digest 77 = .ok (.ladd, 1) := by decide +kernel
theorem dX4_digest_78 : decode cX4_digest 78 = .ok (.lstore_n 1, 1) := by decide +kernel
theorem dX4_digest_79 : decode cX4_digest 79 = .ok (.lload_n 1, 1) := by decide +kernel
theorem dX4_digest_80 : decode cX4_digest 80 = .ok (.ldc2_w 182, 3) := by decide +kernel
theorem dX4_digest_83 : decode cX4_digest 83 = .ok (.lmul, 1) := by decide +kernel
theorem dX4_digest_84 : decode cX4_digest 84 = .ok (.aload_n 0, 1) := by decide +kernel
theorem dX4_digest_85 : decode cX4_digest 85 = .ok (.invokevirtual 187, 3) := by decide +kernel
theorem dX4_digest_88 : decode cX4_digest 88 = .ok (.i2l, 1) := by decide +kernel
theorem dX4_digest_89 : decode cX4_digest 89 = .ok (.ladd, 1) := by decide +kernel
theorem dX4_digest_90 : decode cX4_digest 90 = .ok (.lstore_n 1, 1) := by decide +kernel
theorem dX4_digest_91 : decode cX4_digest 91 = .ok (.aload_n 0, 1) := by decide +kernel
theorem dX4_digest_92 : decode cX4_digest 92 = .ok (.getfield 10, 3) := by decide +kernel
theorem dX4_digest_95 : decode cX4_digest 95 = .ok (.lload_n 1, 1) := by decide +kernel
theorem dX4_digest_96 : decode cX4_digest 96 = .ok (.invokevirtual 190, 3) := by decide +kernel
theorem dX4_digest_99 : decode cX4_digest 99 = .ok (.lstore_n 1, 1) := by decide +kernel
theorem dX4_digest_100 : decode cX4_digest 100 = .ok (.aload_n 0, 1) := by decide +kernel
theorem dX4_digest_101 : decode cX4_digest 101 = .ok (.getfield 19, 3) := by decide +kernel
theorem dX4_digest_104 : decode cX4_digest 104 = .ok (.lload_n 1, 1) := by decide +kernel
theorem dX4_digest_105 : decode cX4_digest 105 = .ok (.invokevirtual 194, 3) := by decide +kernel
theorem dX4_digest_108 : decode cX4_digest 108 = .ok (.lstore_n 1, 1) := by decide +kernel
theorem dX4_digest_109 : decode cX4_digest 109 = .ok (.iconst 0, 1) := by decide +kernel
theorem dX4_digest_110 : decode cX4_digest 110 = .ok (.istore_n 3, 1) := by decide +kernel
theorem dX4_digest_111 : decode cX4_digest 111 = .ok (.iload_n 3, 1) := by decide +kernel
theorem dX4_digest_112 : decode cX4_digest 112 = .ok (.aload_n 0, 1) := by decide +kernel
theorem dX4_digest_113 : decode cX4_digest 113 = .ok (.getfield 30, 3) := by decide +kernel
theorem dX4_digest_116 : decode cX4_digest 116 = .ok (.if_icmp .ge 20, 3) := by decide +kernel
theorem dX4_digest_119 : decode cX4_digest 119 = .ok (.aload_n 0, 1) := by decide +kernel
theorem dX4_digest_120 : decode cX4_digest 120 = .ok (.getfield 25, 3) := by decide +kernel
theorem dX4_digest_123 : decode cX4_digest 123 = .ok (.iload_n 3, 1) := by decide +kernel
theorem dX4_digest_124 : decode cX4_digest 124 = .ok (.aaload, 1) := by decide +kernel
theorem dX4_digest_125 : decode cX4_digest 125 = .ok (.lload_n 1, 1) := by decide +kernel
theorem dX4_digest_126 : decode cX4_digest 126 = .ok (.invokevirtual 195, 3) := by decide +kernel
theorem dX4_digest_129 : decode cX4_digest 129 = .ok (.lstore_n 1, 1) := by decide +kernel
theorem dX4_digest_130 : decode cX4_digest 130 = .ok (.iinc 3 1, 3) := by decide +kernel
theorem dX4_digest_133 : decode cX4_digest 133 = .ok (.goto (-22), 3) := by decide +kernel
theorem dX4_digest_136 : decode cX4_digest 136 = .ok (.lload_n 1, 1) := by decide +kernel
theorem dX4_digest_137 : decode cX4_digest 137 = .ok (.lreturn, 1) := by decide +kernel
set_option maxRecDepth 20000 in
theorem ggX4_somethingThrown_X3_thrown : GoodIn wsX4_somethingThrown wsX3_thrown := goodIn_r _ [6, 7, 15, 16, 17, 18, 19] (by decide +kernel) (by decide +kernel)
set_option maxRecDepth 20000 in
theorem gX4_somethingThrown_X3_thrown : GoodIn wsX4_somethingThrown (wsV RX4 150 RX3 yX3_thrown wsX3_thrown) := goodIn_app (goodIn_of _ (by decide +kernel)) ggX4_somethingThrown_X3_thrown
theorem dX4_somethingThrown_0 : decode cX4_somethingThrown 0 = .ok (.aload_n 0, 1) := by decide +kernel
theorem dX4_somethingThrown_1 : decode cX4_somethingThrown 1 = .ok (.getfield 25, 3) := by decide +kernel
theorem dX4_somethingThrown_4 : decode cX4_somethingThrown 4 = .ok (.iconst 0, 1) := by decide +kernel
theorem dX4_somethingThrown_5 : decode cX4_somethingThrown 5 = .ok (.aaload, 1) := by decide +kernel
theorem dX4_somethingThrown_6 : decode cX4_somethingThrown 6 = .ok (.invokevirtual 150, 3) := by decide +kernel
theorem dX4_somethingThrown_9 : decode cX4_somethingThrown 9 = .ok (.ifCond .le 7, 3) := by decide +kernel
theorem dX4_somethingThrown_12 : decode cX4_somethingThrown 12 = .ok (.iconst 1, 1) := by decide +kernel
theorem dX4_somethingThrown_13 : decode cX4_somethingThrown 13 = .ok (.goto 4, 3) := by decide +kernel
theorem dX4_somethingThrown_16 : decode cX4_somethingThrown 16 = .ok (.iconst 0, 1) := by decide +kernel
theorem dX4_somethingThrown_17 : decode cX4_somethingThrown 17 = .ok (.ireturn, 1) := by decide +kernel
set_option maxRecDepth 20000 in
theorem ggX4_endFrame_X4_isOver : GoodIn wsX4_endFrame wsX4_isOver := goodIn_r _ [10, 4, 22, 23, 24, 25, 26, 27, 28] (by decide +kernel) (by decide +kernel)
set_option maxRecDepth 20000 in
theorem gX4_endFrame_X4_isOver : GoodIn wsX4_endFrame (wsV RX4 144 RX4 yX4_isOver wsX4_isOver) := goodIn_app (goodIn_of _ (by decide +kernel)) ggX4_endFrame_X4_isOver
set_option maxRecDepth 20000 in
theorem ggX4_endFrame_X0_setUp : GoodIn wsX4_endFrame wsX0_setUp := goodIn_r _ [15, 16, 17, 18, 19, 14, 20, 21, 29, 30, 31] (by decide +kernel) (by decide +kernel)
set_option maxRecDepth 20000 in
theorem gX4_endFrame_X0_setUp : GoodIn wsX4_endFrame (wsV RX4 114 RX0 yX0_setUp wsX0_setUp) := goodIn_app (goodIn_of _ (by decide +kernel)) ggX4_endFrame_X0_setUp
theorem dX4_endFrame_0 : decode cX4_endFrame 0 = .ok (.aload_n 0, 1) := by decide +kernel
theorem dX4_endFrame_1 : decode cX4_endFrame 1 = .ok (.iconst 0, 1) := by decide +kernel
theorem dX4_endFrame_2 : decode cX4_endFrame 2 = .ok (.putfield 77, 3) := by decide +kernel
theorem dX4_endFrame_5 : decode cX4_endFrame 5 = .ok (.aload_n 0, 1) := by decide +kernel
theorem dX4_endFrame_6 : decode cX4_endFrame 6 = .ok (.dup, 1) := by decide +kernel
theorem dX4_endFrame_7 : decode cX4_endFrame 7 = .ok (.getfield 108, 3) := by decide +kernel
theorem dX4_endFrame_10 : decode cX4_endFrame 10 = .ok (.iconst 1, 1) := by decide +kernel
theorem dX4_endFrame_11 : decode cX4_endFrame 11 = .ok (.iadd, 1) := by decide +kernel
theorem dX4_endFrame_12 : decode cX4_endFrame 12 = .ok (.putfield 108, 3) := by decide +kernel
theorem dX4_endFrame_15 : decode cX4_endFrame 15 = .ok (.aload_n 0, 1) := by decide +kernel
theorem dX4_endFrame_16 : decode cX4_endFrame 16 = .ok (.getfield 108, 3) := by decide +kernel
theorem dX4_endFrame_19 : decode cX4_endFrame 19 = .ok (.aload_n 0, 1) := by decide +kernel
theorem dX4_endFrame_20 : decode cX4_endFrame 20 = .ok (.getfield 30, 3) := by decide +kernel
theorem dX4_endFrame_23 : decode cX4_endFrame 23 = .ok (.if_icmp .lt 18, 3) := by decide +kernel
theorem dX4_endFrame_26 : decode cX4_endFrame 26 = .ok (.aload_n 0, 1) := by decide +kernel
theorem dX4_endFrame_27 : decode cX4_endFrame 27 = .ok (.iconst 0, 1) := by decide +kernel
theorem dX4_endFrame_28 : decode cX4_endFrame 28 = .ok (.putfield 108, 3) := by decide +kernel
theorem dX4_endFrame_31 : decode cX4_endFrame 31 = .ok (.aload_n 0, 1) := by decide +kernel
theorem dX4_endFrame_32 : decode cX4_endFrame 32 = .ok (.dup, 1) := by decide +kernel
theorem dX4_endFrame_33 : decode cX4_endFrame 33 = .ok (.getfield 70, 3) := by decide +kernel
theorem dX4_endFrame_36 : decode cX4_endFrame 36 = .ok (.iconst 1, 1) := by decide +kernel
theorem dX4_endFrame_37 : decode cX4_endFrame 37 = .ok (.iadd, 1) := by decide +kernel
theorem dX4_endFrame_38 : decode cX4_endFrame 38 = .ok (.putfield 70, 3) := by decide +kernel
theorem dX4_endFrame_41 : decode cX4_endFrame 41 = .ok (.aload_n 0, 1) := by decide +kernel
theorem dX4_endFrame_42 : decode cX4_endFrame 42 = .ok (.invokevirtual 144, 3) := by decide +kernel
theorem dX4_endFrame_45 : decode cX4_endFrame 45 = .ok (.ifCond .ne 10, 3) := by decide +kernel
theorem dX4_endFrame_48 : decode cX4_endFrame 48 = .ok (.aload_n 0, 1) := by decide +kernel
theorem dX4_endFrame_49 : decode cX4_endFrame 49 = .ok (.getfield 10, 3) := by decide +kernel
theorem dX4_endFrame_52 : decode cX4_endFrame 52 = .ok (.invokevirtual 114, 3) := by decide +kernel
theorem dX4_endFrame_55 : decode cX4_endFrame 55 = .ok (.return_, 1) := by decide +kernel
set_option maxRecDepth 20000 in
theorem ggX4_checkPlayer_X4_checkIndex : GoodIn wsX4_checkPlayer wsX4_checkIndex := goodIn_ca (goodIn_r _ [5, 6, 7] (by decide +kernel) (by decide +kernel)) (goodIn_sub (fun _ h => List.mem_cons_of_mem _ (List.mem_append_right _ h)) (by decide +kernel))
set_option maxRecDepth 20000 in
theorem gX4_checkPlayer_X4_checkIndex : GoodIn wsX4_checkPlayer (va_wsS RX4 156 yX4_checkIndex wsX4_checkIndex) := goodIn_app (goodIn_of _ (by decide +kernel)) ggX4_checkPlayer_X4_checkIndex
theorem dX4_checkPlayer_0 : decode cX4_checkPlayer 0 = .ok (.iload_n 1, 1) := by decide +kernel
theorem dX4_checkPlayer_1 : decode cX4_checkPlayer 1 = .ok (.aload_n 0, 1) := by decide +kernel
theorem dX4_checkPlayer_2 : decode cX4_checkPlayer 2 = .ok (.getfield 30, 3) := by decide +kernel
theorem dX4_checkPlayer_5 : decode cX4_checkPlayer 5 = .ok (.invokestatic 156, 3) := by decide +kernel
theorem dX4_checkPlayer_8 : decode cX4_checkPlayer 8 = .ok (.return_, 1) := by decide +kernel
set_option maxRecDepth 20000 in
theorem ggX4_checkPin_X4_checkIndex : GoodIn wsX4_checkPin wsX4_checkIndex := goodIn_ca (goodIn_r _ [4, 5, 6] (by decide +kernel) (by decide +kernel)) (goodIn_sub (fun _ h => List.mem_cons_of_mem _ (List.mem_append_right _ h)) (by decide +kernel))
set_option maxRecDepth 20000 in
theorem gX4_checkPin_X4_checkIndex : GoodIn wsX4_checkPin (va_wsS RX4 156 yX4_checkIndex wsX4_checkIndex) := goodIn_app (goodIn_of _ (by decide +kernel)) ggX4_checkPin_X4_checkIndex
theorem dX4_checkPin_0 : decode cX4_checkPin 0 = .ok (.iload_n 0, 1) := by decide +kernel
theorem dX4_checkPin_1 : decode cX4_checkPin 1 = .ok (.bipush 9, 2) := by decide +kernel
theorem dX4_checkPin_3 : decode cX4_checkPin 3 = .ok (.invokestatic 156, 3) := by decide +kernel
theorem dX4_checkPin_6 : decode cX4_checkPin 6 = .ok (.return_, 1) := by decide +kernel
set_option maxRecDepth 20000 in
theorem ggX4_checkBall_X4_checkIndex : GoodIn wsX4_checkBall wsX4_checkIndex := goodIn_ca (goodIn_r _ [4, 5, 6] (by decide +kernel) (by decide +kernel)) (goodIn_sub (fun _ h => List.mem_cons_of_mem _ (List.mem_append_right _ h)) (by decide +kernel))
set_option maxRecDepth 20000 in
theorem gX4_checkBall_X4_checkIndex : GoodIn wsX4_checkBall (va_wsS RX4 156 yX4_checkIndex wsX4_checkIndex) := goodIn_app (goodIn_of _ (by decide +kernel)) ggX4_checkBall_X4_checkIndex
theorem dX4_checkBall_0 : decode cX4_checkBall 0 = .ok (.iload_n 0, 1) := by decide +kernel
theorem dX4_checkBall_1 : decode cX4_checkBall 1 = .ok (.iconst 5, 1) := by decide +kernel
theorem dX4_checkBall_2 : decode cX4_checkBall 2 = .ok (.invokestatic 156, 3) := by decide +kernel
theorem dX4_checkBall_5 : decode cX4_checkBall 5 = .ok (.return_, 1) := by decide +kernel
set_option maxRecDepth 20000 in
theorem ggX4_checkThrow_X4_checkBall : GoodIn wsX4_checkThrow wsX4_checkBall := goodIn_ca (goodIn_r _ [4, 5, 6, 3, 7, 8, 9] (by decide +kernel) (by decide +kernel)) (goodIn_sub (fun _ h => List.mem_cons_of_mem _ (List.mem_append_right _ h)) (by decide +kernel))
set_option maxRecDepth 20000 in
theorem gX4_checkThrow_X4_checkBall : GoodIn wsX4_checkThrow (va_wsS RX4 141 yX4_checkBall wsX4_checkBall) := goodIn_app (goodIn_of _ (by decide +kernel)) ggX4_checkThrow_X4_checkBall
set_option maxRecDepth 20000 in
theorem ggX4_checkThrow_X4_checkIndex : GoodIn wsX4_checkThrow wsX4_checkIndex := goodIn_ca (goodIn_r _ [7, 8, 9] (by decide +kernel) (by decide +kernel)) (goodIn_sub (fun _ h => List.mem_cons_of_mem _ (List.mem_append_right _ h)) (by decide +kernel))
set_option maxRecDepth 20000 in
theorem gX4_checkThrow_X4_checkIndex : GoodIn wsX4_checkThrow (va_wsS RX4 156 yX4_checkIndex wsX4_checkIndex) := goodIn_app (goodIn_of _ (by decide +kernel)) ggX4_checkThrow_X4_checkIndex
theorem dX4_checkThrow_0 : decode cX4_checkThrow 0 = .ok (.iload_n 0, 1) := by decide +kernel
theorem dX4_checkThrow_1 : decode cX4_checkThrow 1 = .ok (.invokestatic 141, 3) := by decide +kernel
theorem dX4_checkThrow_4 : decode cX4_checkThrow 4 = .ok (.iload_n 1, 1) := by decide +kernel
theorem dX4_checkThrow_5 : decode cX4_checkThrow 5 = .ok (.iconst 5, 1) := by decide +kernel
theorem dX4_checkThrow_6 : decode cX4_checkThrow 6 = .ok (.invokestatic 156, 3) := by decide +kernel
theorem dX4_checkThrow_9 : decode cX4_checkThrow 9 = .ok (.return_, 1) := by decide +kernel
theorem dX4_checkIndex_0 : decode cX4_checkIndex 0 = .ok (.iload_n 0, 1) := by decide +kernel
theorem dX4_checkIndex_1 : decode cX4_checkIndex 1 = .ok (.ifCond .lt 8, 3) := by decide +kernel
theorem dX4_checkIndex_4 : decode cX4_checkIndex 4 = .ok (.iload_n 0, 1) := by decide +kernel
theorem dX4_checkIndex_5 : decode cX4_checkIndex 5 = .ok (.iload_n 1, 1) := by decide +kernel
theorem dX4_checkIndex_6 : decode cX4_checkIndex 6 = .ok (.if_icmp .lt 13, 3) := by decide +kernel
theorem dX4_checkIndex_9 : decode cX4_checkIndex 9 = .ok (.new 196, 3) := by decide +kernel
theorem dX4_checkIndex_12 : decode cX4_checkIndex 12 = .ok (.dup, 1) := by decide +kernel
theorem dX4_checkIndex_13 : decode cX4_checkIndex 13 = .ok (.ldc 198, 2) := by decide +kernel
theorem dX4_checkIndex_15 : decode cX4_checkIndex 15 = .ok (.invokespecial 200, 3) := by decide +kernel
theorem dX4_checkIndex_18 : decode cX4_checkIndex 18 = .ok (.athrow, 1) := by decide +kernel
theorem dX4_checkIndex_19 : decode cX4_checkIndex 19 = .ok (.return_, 1) := by decide +kernel
theorem dX5_init_0 : decode cX5_init 0 = .ok (.aload_n 0, 1) := by decide +kernel
theorem dX5_init_1 : decode cX5_init 1 = .ok (.invokespecial 1, 3) := by decide +kernel
theorem dX5_init_4 : decode cX5_init 4 = .ok (.aload_n 0, 1) := by decide +kernel
theorem dX5_init_5 : decode cX5_init 5 = .ok (.bipush 9, 2) := by decide +kernel
theorem dX5_init_7 : decode cX5_init 7 = .ok (.newarray .boolean, 2) := by decide +kernel
theorem dX5_init_9 : decode cX5_init 9 = .ok (.dup, 1) := by decide +kernel
theorem dX5_init_10 : decode cX5_init 10 = .ok (.iconst 0, 1) := by decide +kernel
theorem dX5_init_11 : decode cX5_init 11 = .ok (.iconst 1, 1) := by decide +kernel
theorem dX5_init_12 : decode cX5_init 12 = .ok (.bastore, 1) := by decide +kernel
theorem dX5_init_13 : decode cX5_init 13 = .ok (.dup, 1) := by decide +kernel
theorem dX5_init_14 : decode cX5_init 14 = .ok (.iconst 1, 1) := by decide +kernel
theorem dX5_init_15 : decode cX5_init 15 = .ok (.iconst 1, 1) := by decide +kernel
theorem dX5_init_16 : decode cX5_init 16 = .ok (.bastore, 1) := by decide +kernel
theorem dX5_init_17 : decode cX5_init 17 = .ok (.dup, 1) := by decide +kernel
theorem dX5_init_18 : decode cX5_init 18 = .ok (.iconst 2, 1) := by decide +kernel
theorem dX5_init_19 : decode cX5_init 19 = .ok (.iconst 1, 1) := by decide +kernel
theorem dX5_init_20 : decode cX5_init 20 = .ok (.bastore, 1) := by decide +kernel
theorem dX5_init_21 : decode cX5_init 21 = .ok (.dup, 1) := by decide +kernel
theorem dX5_init_22 : decode cX5_init 22 = .ok (.iconst 3, 1) := by decide +kernel
theorem dX5_init_23 : decode cX5_init 23 = .ok (.iconst 1, 1) := by decide +kernel
theorem dX5_init_24 : decode cX5_init 24 = .ok (.bastore, 1) := by decide +kernel
theorem dX5_init_25 : decode cX5_init 25 = .ok (.dup, 1) := by decide +kernel
theorem dX5_init_26 : decode cX5_init 26 = .ok (.iconst 4, 1) := by decide +kernel
theorem dX5_init_27 : decode cX5_init 27 = .ok (.iconst 1, 1) := by decide +kernel
theorem dX5_init_28 : decode cX5_init 28 = .ok (.bastore, 1) := by decide +kernel
theorem dX5_init_29 : decode cX5_init 29 = .ok (.dup, 1) := by decide +kernel
theorem dX5_init_30 : decode cX5_init 30 = .ok (.iconst 5, 1) := by decide +kernel
theorem dX5_init_31 : decode cX5_init 31 = .ok (.iconst 1, 1) := by decide +kernel
theorem dX5_init_32 : decode cX5_init 32 = .ok (.bastore, 1) := by decide +kernel
theorem dX5_init_33 : decode cX5_init 33 = .ok (.dup, 1) := by decide +kernel
theorem dX5_init_34 : decode cX5_init 34 = .ok (.bipush 6, 2) := by decide +kernel
theorem dX5_init_36 : decode cX5_init 36 = .ok (.iconst 1, 1) := by decide +kernel
theorem dX5_init_37 : decode cX5_init 37 = .ok (.bastore, 1) := by decide +kernel
theorem dX5_init_38 : decode cX5_init 38 = .ok (.dup, 1) := by decide +kernel
theorem dX5_init_39 : decode cX5_init 39 = .ok (.bipush 7, 2) := by decide +kernel
theorem dX5_init_41 : decode cX5_init 41 = .ok (.iconst 1, 1) := by decide +kernel
theorem dX5_init_42 : decode cX5_init 42 = .ok (.bastore, 1) := by decide +kernel
theorem dX5_init_43 : decode cX5_init 43 = .ok (.dup, 1) := by decide +kernel
theorem dX5_init_44 : decode cX5_init 44 = .ok (.bipush 8, 2) := by decide +kernel
theorem dX5_init_46 : decode cX5_init 46 = .ok (.iconst 1, 1) := by decide +kernel
theorem dX5_init_47 : decode cX5_init 47 = .ok (.bastore, 1) := by decide +kernel
theorem dX5_init_48 : decode cX5_init 48 = .ok (.putfield 7, 3) := by decide +kernel
theorem dX5_init_51 : decode cX5_init 51 = .ok (.aload_n 0, 1) := by decide +kernel
theorem dX5_init_52 : decode cX5_init 52 = .ok (.bipush 9, 2) := by decide +kernel
theorem dX5_init_54 : decode cX5_init 54 = .ok (.newarray .int, 2) := by decide +kernel
theorem dX5_init_56 : decode cX5_init 56 = .ok (.putfield 13, 3) := by decide +kernel
theorem dX5_init_59 : decode cX5_init 59 = .ok (.aload_n 0, 1) := by decide +kernel
theorem dX5_init_60 : decode cX5_init 60 = .ok (.iconst 5, 1) := by decide +kernel
theorem dX5_init_61 : decode cX5_init 61 = .ok (.newarray .int, 2) := by decide +kernel
theorem dX5_init_63 : decode cX5_init 63 = .ok (.putfield 17, 3) := by decide +kernel
theorem dX5_init_66 : decode cX5_init 66 = .ok (.aload_n 0, 1) := by decide +kernel
theorem dX5_init_67 : decode cX5_init 67 = .ok (.iconst 3, 1) := by decide +kernel
theorem dX5_init_68 : decode cX5_init 68 = .ok (.putfield 20, 3) := by decide +kernel
theorem dX5_init_71 : decode cX5_init 71 = .ok (.aload_n 0, 1) := by decide +kernel
theorem dX5_init_72 : decode cX5_init 72 = .ok (.iconst 0, 1) := by decide +kernel
theorem dX5_init_73 : decode cX5_init 73 = .ok (.anewarray 24, 3) := by decide +kernel
theorem dX5_init_76 : decode cX5_init 76 = .ok (.putfield 25, 3) := by decide +kernel
theorem dX5_init_79 : decode cX5_init 79 = .ok (.return_, 1) := by decide +kernel
theorem dX5_find_0 : decode cX5_find 0 = .ok (.iconst 0, 1) := by decide +kernel
theorem dX5_find_1 : decode cX5_find 1 = .ok (.istore_n 2, 1) := by decide +kernel
theorem dX5_find_2 : decode cX5_find 2 = .ok (.iload_n 2, 1) := by decide +kernel
theorem dX5_find_3 : decode cX5_find 3 = .ok (.bipush 9, 2) := by decide +kernel
theorem dX5_find_5 : decode cX5_find 5 = .ok (.if_icmp .ge 29, 3) := by decide +kernel
theorem dX5_find_8 : decode cX5_find 8 = .ok (.getstatic 29, 3) := by decide +kernel
theorem dX5_find_11 : decode cX5_find 11 = .ok (.iload_n 2, 1) := by decide +kernel
theorem dX5_find_12 : decode cX5_find 12 = .ok (.iaload, 1) := by decide +kernel
theorem dX5_find_13 : decode cX5_find 13 = .ok (.iload_n 0, 1) := by decide +kernel
theorem dX5_find_14 : decode cX5_find 14 = .ok (.if_icmp .ne 14, 3) := by decide +kernel
theorem dX5_find_17 : decode cX5_find 17 = .ok (.getstatic 34, 3) := by decide +kernel
theorem dX5_find_20 : decode cX5_find 20 = .ok (.iload_n 2, 1) := by decide +kernel
theorem dX5_find_21 : decode cX5_find 21 = .ok (.iaload, 1) := by decide +kernel
theorem dX5_find_22 : decode cX5_find 22 = .ok (.iload_n 1, 1) := by decide +kernel
theorem dX5_find_23 : decode cX5_find 23 = .ok (.if_icmp .ne 5, 3) := by decide +kernel
theorem dX5_find_26 : decode cX5_find 26 = .ok (.iload_n 2, 1) := by decide +kernel
theorem dX5_find_27 : decode cX5_find 27 = .ok (.ireturn, 1) := by decide +kernel
theorem dX5_find_28 : decode cX5_find 28 = .ok (.iinc 2 1, 3) := by decide +kernel
theorem dX5_find_31 : decode cX5_find 31 = .ok (.goto (-29), 3) := by decide +kernel
theorem dX5_find_34 : decode cX5_find 34 = .ok (.iconst (-1), 1) := by decide +kernel
theorem dX5_find_35 : decode cX5_find 35 = .ok (.ireturn, 1) := by decide +kernel
theorem dX5_many_0 : decode cX5_many 0 = .ok (.iconst 0, 1) := by decide +kernel
theorem dX5_many_1 : decode cX5_many 1 = .ok (.istore_n 1, 1) := by decide +kernel
theorem dX5_many_2 : decode cX5_many 2 = .ok (.aload_n 0, 1) := by decide +kernel
theorem dX5_many_3 : decode cX5_many 3 = .ok (.astore_n 2, 1) := by decide +kernel
theorem dX5_many_4 : decode cX5_many 4 = .ok (.aload_n 2, 1) := by decide +kernel
theorem dX5_many_5 : decode cX5_many 5 = .ok (.arraylength, 1) := by decide +kernel
theorem dX5_many_6 : decode cX5_many 6 = .ok (.istore_n 3, 1) := by decide +kernel
theorem dX5_many_7 : decode cX5_many 7 = .ok (.iconst 0, 1) := by decide +kernel
theorem dX5_many_8 : decode cX5_many 8 = .ok (.istore 4, 2) := by decide +kernel
theorem dX5_many_10 : decode cX5_many 10 = .ok (.iload 4, 2) := by decide +kernel
theorem dX5_many_12 : decode cX5_many 12 = .ok (.iload_n 3, 1) := by decide +kernel
theorem dX5_many_13 : decode cX5_many 13 = .ok (.if_icmp .ge 28, 3) := by decide +kernel
theorem dX5_many_16 : decode cX5_many 16 = .ok (.aload_n 2, 1) := by decide +kernel
theorem dX5_many_17 : decode cX5_many 17 = .ok (.iload 4, 2) := by decide +kernel
theorem dX5_many_19 : decode cX5_many 19 = .ok (.baload, 1) := by decide +kernel
theorem dX5_many_20 : decode cX5_many 20 = .ok (.istore 5, 2) := by decide +kernel
theorem dX5_many_22 : decode cX5_many 22 = .ok (.iload_n 1, 1) := by decide +kernel
theorem dX5_many_23 : decode cX5_many 23 = .ok (.iload 5, 2) := by decide +kernel
theorem dX5_many_25 : decode cX5_many 25 = .ok (.ifCond .eq 7, 3) := by decide +kernel
theorem dX5_many_28 : decode cX5_many 28 = .ok (.iconst 1, 1) := by decide +kernel
theorem dX5_many_29 : decode cX5_many 29 = .ok (.goto 4, 3) := by decide +kernel
theorem dX5_many_32 : decode cX5_many 32 = .ok (.iconst 0, 1) := by decide +kernel
theorem dX5_many_33 : decode cX5_many 33 = .ok (.iadd, 1) := by decide +kernel
theorem dX5_many_34 : decode cX5_many 34 = .ok (.istore_n 1, 1) := by decide +kernel
theorem dX5_many_35 : decode cX5_many 35 = .ok (.iinc 4 1, 3) := by decide +kernel
theorem dX5_many_38 : decode cX5_many 38 = .ok (.goto (-28), 3) := by decide +kernel
theorem dX5_many_41 : decode cX5_many 41 = .ok (.iload_n 1, 1) := by decide +kernel
theorem dX5_many_42 : decode cX5_many 42 = .ok (.ireturn, 1) := by decide +kernel
set_option maxRecDepth 20000 in
theorem ggX5_hit_X5_find : GoodIn wsX5_hit wsX5_find := goodIn_r _ [4] (by decide +kernel) (by decide +kernel)
set_option maxRecDepth 20000 in
theorem gX5_hit_X5_find : GoodIn wsX5_hit (va_wsS RX5 37 yX5_find wsX5_find) := goodIn_app (goodIn_of _ (by decide +kernel)) ggX5_hit_X5_find
set_option maxRecDepth 20000 in
theorem ggX5_hit_X5_hit : GoodIn wsX5_hit wsX5_hit := goodIn_r _ [0, 1, 2, 3, 4, 5, 6] (by decide +kernel) (by decide +kernel)
set_option maxRecDepth 20000 in
theorem gX5_hit_X5_hit : GoodIn wsX5_hit (va_wsS RX5 41 yX5_hit wsX5_hit) := goodIn_app (goodIn_of _ (by decide +kernel)) ggX5_hit_X5_hit
theorem dX5_hit_0 : decode cX5_hit 0 = .ok (.iload_n 1, 1) := by decide +kernel
theorem dX5_hit_1 : decode cX5_hit 1 = .ok (.ifCond .lt 13, 3) := by decide +kernel
theorem dX5_hit_4 : decode cX5_hit 4 = .ok (.iload_n 2, 1) := by decide +kernel
theorem dX5_hit_5 : decode cX5_hit 5 = .ok (.ifCond .le 9, 3) := by decide +kernel
theorem dX5_hit_8 : decode cX5_hit 8 = .ok (.aload_n 0, 1) := by decide +kernel
theorem dX5_hit_9 : decode cX5_hit 9 = .ok (.iload_n 1, 1) := by decide +kernel
theorem dX5_hit_10 : decode cX5_hit 10 = .ok (.baload, 1) := by decide +kernel
theorem dX5_hit_11 : decode cX5_hit 11 = .ok (.ifCond .ne 4, 3) := by decide +kernel
theorem dX5_hit_14 : decode cX5_hit 14 = .ok (.return_, 1) := by decide +kernel
theorem dX5_hit_15 : decode cX5_hit 15 = .ok (.aload_n 0, 1) := by decide +kernel
theorem dX5_hit_16 : decode cX5_hit 16 = .ok (.iload_n 1, 1) := by decide +kernel
theorem dX5_hit_17 : decode cX5_hit 17 = .ok (.iconst 0, 1) := by decide +kernel
theorem dX5_hit_18 : decode cX5_hit 18 = .ok (.bastore, 1) := by decide +kernel
theorem dX5_hit_19 : decode cX5_hit 19 = .ok (.iconst (-1), 1) := by decide +kernel
theorem dX5_hit_20 : decode cX5_hit 20 = .ok (.istore_n 3, 1) := by decide +kernel
theorem dX5_hit_21 : decode cX5_hit 21 = .ok (.iload_n 3, 1) := by decide +kernel
theorem dX5_hit_22 : decode cX5_hit 22 = .ok (.iconst 2, 1) := by decide +kernel
theorem dX5_hit_23 : decode cX5_hit 23 = .ok (.if_icmp .ge 33, 3) := by decide +kernel
theorem dX5_hit_26 : decode cX5_hit 26 = .ok (.aload_n 0, 1) := by decide +kernel
theorem dX5_hit_27 : decode cX5_hit 27 = .ok (.getstatic 29, 3) := by decide +kernel
theorem dX5_hit_30 : decode cX5_hit 30 = .ok (.iload_n 1, 1) := by decide +kernel
theorem dX5_hit_31 : decode cX5_hit 31 = .ok (.iaload, 1) := by decide +kernel
theorem dX5_hit_32 : decode cX5_hit 32 = .ok (.iconst 1, 1) := by decide +kernel
theorem dX5_hit_33 : decode cX5_hit 33 = .ok (.iadd, 1) := by decide +kernel
theorem dX5_hit_34 : decode cX5_hit 34 = .ok (.getstatic 34, 3) := by decide +kernel
theorem dX5_hit_37 : decode cX5_hit 37 = .ok (.iload_n 1, 1) := by decide +kernel
theorem dX5_hit_38 : decode cX5_hit 38 = .ok (.iaload, 1) := by decide +kernel
theorem dX5_hit_39 : decode cX5_hit 39 = .ok (.iload_n 3, 1) := by decide +kernel
theorem dX5_hit_40 : decode cX5_hit 40 = .ok (.iadd, 1) := by decide +kernel
theorem dX5_hit_41 : decode cX5_hit 41 = .ok (.invokestatic 37, 3) := by decide +kernel
theorem dX5_hit_44 : decode cX5_hit 44 = .ok (.iload_n 2, 1) := by decide +kernel
theorem dX5_hit_45 : decode cX5_hit 45 = .ok (.iconst 2, 1) := by decide +kernel
theorem dX5_hit_46 : decode cX5_hit 46 = .ok (.isub, 1) := by decide +kernel
theorem dX5_hit_47 : decode cX5_hit 47 = .ok (.invokestatic 41, 3) := by decide +kernel
theorem dX5_hit_50 : decode cX5_hit 50 = .ok (.iinc 3 2, 3) := by decide +kernel
theorem dX5_hit_53 : decode cX5_hit 53 = .ok (.goto (-32), 3) := by decide +kernel
theorem dX5_hit_56 : decode cX5_hit 56 = .ok (.return_, 1) := by decide +kernel
set_option maxRecDepth 20000 in
theorem ggX5_behind_X5_find : GoodIn wsX5_behind wsX5_find := goodIn_r _ [10] (by decide +kernel) (by decide +kernel)
set_option maxRecDepth 20000 in
theorem gX5_behind_X5_find : GoodIn wsX5_behind (va_wsS RX5 37 yX5_find wsX5_find) := goodIn_app (goodIn_of _ (by decide +kernel)) ggX5_behind_X5_find
set_option maxRecDepth 20000 in
theorem ggX5_behind_X5_hit : GoodIn wsX5_behind wsX5_hit := goodIn_r _ [13, 7, 8, 9, 10, 11, 12] (by decide +kernel) (by decide +kernel)
set_option maxRecDepth 20000 in
theorem gX5_behind_X5_hit : GoodIn wsX5_behind (va_wsS RX5 41 yX5_hit wsX5_hit) := goodIn_app (goodIn_of _ (by decide +kernel)) ggX5_behind_X5_hit
theorem dX5_behind_0 : decode cX5_behind 0 = .ok (.aload_n 0, 1) := by decide +kernel
theorem dX5_behind_1 : decode cX5_behind 1 = .ok (.invokevirtual 45, 3) := by decide +kernel
theorem dX5_behind_4 : decode cX5_behind 4 = .ok (.checkcast 46, 3) := by decide +kernel
theorem dX5_behind_7 : decode cX5_behind 7 = .ok (.astore_n 3, 1) := by decide +kernel
theorem dX5_behind_8 : decode cX5_behind 8 = .ok (.iload_n 1, 1) := by decide +kernel
theorem dX5_behind_9 : decode cX5_behind 9 = .ok (.iconst 2, 1) := by decide +kernel
theorem dX5_behind_10 : decode cX5_behind 10 = .ok (.iadd, 1) := by decide +kernel
theorem dX5_behind_11 : decode cX5_behind 11 = .ok (.istore 4, 2) := by decide +kernel
theorem dX5_behind_13 : decode cX5_behind 13 = .ok (.iconst 0, 1) := by decide +kernel
theorem dX5_behind_14 : decode cX5_behind 14 = .ok (.istore 5, 2) := by decide +kernel
theorem dX5_behind_16 : decode cX5_behind 16 = .ok (.iload 5, 2) := by decide +kernel
theorem dX5_behind_18 : decode cX5_behind 18 = .ok (.iconst 5, 1) := by decide +kernel
theorem dX5_behind_19 : decode cX5_behind 19 = .ok (.if_icmp .ge 48, 3) := by decide +kernel
theorem dX5_behind_22 : decode cX5_behind 22 = .ok (.iload 5, 2) := by decide +kernel
theorem dX5_behind_24 : decode cX5_behind 24 = .ok (.iload_n 2, 1) := by decide +kernel
theorem dX5_behind_25 : decode cX5_behind 25 = .ok (.invokestatic 37, 3) := by decide +kernel
theorem dX5_behind_28 : decode cX5_behind 28 = .ok (.istore 6, 2) := by decide +kernel
theorem dX5_behind_30 : decode cX5_behind 30 = .ok (.iload 6, 2) := by decide +kernel
theorem dX5_behind_32 : decode cX5_behind 32 = .ok (.ifCond .lt 29, 3) := by decide +kernel
theorem dX5_behind_35 : decode cX5_behind 35 = .ok (.aload_n 3, 1) := by decide +kernel
theorem dX5_behind_36 : decode cX5_behind 36 = .ok (.iload 6, 2) := by decide +kernel
theorem dX5_behind_38 : decode cX5_behind 38 = .ok (.baload, 1) := by decide +kernel
theorem dX5_behind_39 : decode cX5_behind 39 = .ok (.ifCond .eq 22, 3) := by decide +kernel
theorem dX5_behind_42 : decode cX5_behind 42 = .ok (.iload 4, 2) := by decide +kernel
theorem dX5_behind_44 : decode cX5_behind 44 = .ok (.ifCond .ne 6, 3) := by decide +kernel
theorem dX5_behind_47 : decode cX5_behind 47 = .ok (.goto 14, 3) := by decide +kernel
theorem dX5_behind_50 : decode cX5_behind 50 = .ok (.aload_n 3, 1) := by decide +kernel
theorem dX5_behind_51 : decode cX5_behind 51 = .ok (.iload 6, 2) := by decide +kernel
theorem dX5_behind_53 : decode cX5_behind 53 = .ok (.iload 4, 2) := by decide +kernel
theorem dX5_behind_55 : decode cX5_behind 55 = .ok (.invokestatic 41, 3) := by decide +kernel
theorem dX5_behind_58 : decode cX5_behind 58 = .ok (.iinc 4 (-1), 3) := by decide +kernel
theorem dX5_behind_61 : decode cX5_behind 61 = .ok (.iinc 5 1, 3) := by decide +kernel
theorem dX5_behind_64 : decode cX5_behind 64 = .ok (.goto (-48), 3) := by decide +kernel
theorem dX5_behind_67 : decode cX5_behind 67 = .ok (.aload_n 3, 1) := by decide +kernel
theorem dX5_behind_68 : decode cX5_behind 68 = .ok (.areturn, 1) := by decide +kernel
theorem dX5_setUp_0 : decode cX5_setUp 0 = .ok (.iconst 0, 1) := by decide +kernel
theorem dX5_setUp_1 : decode cX5_setUp 1 = .ok (.istore_n 1, 1) := by decide +kernel
theorem dX5_setUp_2 : decode cX5_setUp 2 = .ok (.iload_n 1, 1) := by decide +kernel
theorem dX5_setUp_3 : decode cX5_setUp 3 = .ok (.bipush 9, 2) := by decide +kernel
theorem dX5_setUp_5 : decode cX5_setUp 5 = .ok (.if_icmp .ge 31, 3) := by decide +kernel
theorem dX5_setUp_8 : decode cX5_setUp 8 = .ok (.aload_n 0, 1) := by decide +kernel
theorem dX5_setUp_9 : decode cX5_setUp 9 = .ok (.getfield 7, 3) := by decide +kernel
theorem dX5_setUp_12 : decode cX5_setUp 12 = .ok (.iload_n 1, 1) := by decide +kernel
theorem dX5_setUp_13 : decode cX5_setUp 13 = .ok (.aload_n 0, 1) := by decide +kernel
theorem dX5_setUp_14 : decode cX5_setUp 14 = .ok (.getfield 13, 3) := by decide +kernel
theorem dX5_setUp_17 : decode cX5_setUp 17 = .ok (.iload_n 1, 1) := by decide +kernel
theorem dX5_setUp_18 : decode cX5_setUp 18 = .ok (.iaload, 1) := by decide +kernel
theorem dX5_setUp_19 : decode cX5_setUp 19 = .ok (.bipush 12, 2) := by decide +kernel
theorem dX5_setUp_21 : decode cX5_setUp 21 = .ok (.if_icmp .ge 7, 3) := by decide +kernel
theorem dX5_setUp_24 : decode cX5_setUp 24 = .ok (.iconst 1, 1) := by decide +kernel
theorem dX5_setUp_25 : decode cX5_setUp 25 = .ok (.goto 4, 3) := by decide +kernel
theorem dX5_setUp_28 : decode cX5_setUp 28 = .ok (.iconst 0, 1) := by decide +kernel
theorem dX5_setUp_29 : decode cX5_setUp 29 = .ok (.bastore, 1) := by decide +kernel
theorem dX5_setUp_30 : decode cX5_setUp 30 = .ok (.iinc 1 1, 3) := by decide +kernel
theorem dX5_setUp_33 : decode cX5_setUp 33 = .ok (.goto (-31), 3) := by decide +kernel
theorem dX5_setUp_36 : decode cX5_setUp 36 = .ok (.return_, 1) := by decide +kernel
theorem dX5_isOver_0 : decode cX5_isOver 0 = .ok (.aload_n 0, 1) := by decide +kernel
theorem dX5_isOver_1 : decode cX5_isOver 1 = .ok (.getfield 50, 3) := by decide +kernel
theorem dX5_isOver_4 : decode cX5_isOver 4 = .ok (.bipush 10, 2) := by decide +kernel
theorem dX5_isOver_6 : decode cX5_isOver 6 = .ok (.if_icmp .ne 7, 3) := by decide +kernel
theorem dX5_isOver_9 : decode cX5_isOver 9 = .ok (.iconst 1, 1) := by decide +kernel
theorem dX5_isOver_10 : decode cX5_isOver 10 = .ok (.goto 4, 3) := by decide +kernel
theorem dX5_isOver_13 : decode cX5_isOver 13 = .ok (.iconst 0, 1) := by decide +kernel
theorem dX5_isOver_14 : decode cX5_isOver 14 = .ok (.ireturn, 1) := by decide +kernel
set_option maxRecDepth 20000 in
theorem ggX5_canThrow_X5_isOver : GoodIn wsX5_canThrow wsX5_isOver := goodIn_r _ [7, 8, 9, 10, 11, 12, 13, 14, 15, 16, 17] (by decide +kernel) (by decide +kernel)
set_option maxRecDepth 20000 in
theorem gX5_canThrow_X5_isOver : GoodIn wsX5_canThrow (wsV RX5 56 RX5 yX5_isOver wsX5_isOver) := goodIn_app (goodIn_of _ (by decide +kernel)) ggX5_canThrow_X5_isOver
theorem dX5_canThrow_0 : decode cX5_canThrow 0 = .ok (.aload_n 0, 1) := by decide +kernel
theorem dX5_canThrow_1 : decode cX5_canThrow 1 = .ok (.getfield 53, 3) := by decide +kernel
theorem dX5_canThrow_4 : decode cX5_canThrow 4 = .ok (.ifCond .le 23, 3) := by decide +kernel
theorem dX5_canThrow_7 : decode cX5_canThrow 7 = .ok (.aload_n 0, 1) := by decide +kernel
theorem dX5_canThrow_8 : decode cX5_canThrow 8 = .ok (.invokevirtual 56, 3) := by decide +kernel
theorem dX5_canThrow_11 : decode cX5_canThrow 11 = .ok (.ifCond .ne 16, 3) := by decide +kernel
theorem dX5_canThrow_14 : decode cX5_canThrow 14 = .ok (.aload_n 0, 1) := by decide +kernel
theorem dX5_canThrow_15 : decode cX5_canThrow 15 = .ok (.getfield 17, 3) := by decide +kernel
theorem dX5_canThrow_18 : decode cX5_canThrow 18 = .ok (.iload_n 1, 1) := by decide +kernel
theorem dX5_canThrow_19 : decode cX5_canThrow 19 = .ok (.iaload, 1) := by decide +kernel
theorem dX5_canThrow_20 : decode cX5_canThrow 20 = .ok (.ifCond .ne 7, 3) := by decide +kernel
theorem dX5_canThrow_23 : decode cX5_canThrow 23 = .ok (.iconst 1, 1) := by decide +kernel
theorem dX5_canThrow_24 : decode cX5_canThrow 24 = .ok (.goto 4, 3) := by decide +kernel
theorem dX5_canThrow_27 : decode cX5_canThrow 27 = .ok (.iconst 0, 1) := by decide +kernel
theorem dX5_canThrow_28 : decode cX5_canThrow 28 = .ok (.ireturn, 1) := by decide +kernel
set_option maxRecDepth 20000 in
theorem ggX5_play_X5_behind : GoodIn wsX5_play wsX5_behind := goodIn_r _ [14, 15, 16, 17, 18, 19, 20, 21, 22, 13, 23, 24, 25, 26] (by decide +kernel) (by decide +kernel)
set_option maxRecDepth 20000 in
theorem gX5_play_X5_behind : GoodIn wsX5_play (va_wsS RX5 60 yX5_behind wsX5_behind) := goodIn_app (goodIn_of _ (by decide +kernel)) ggX5_play_X5_behind
set_option maxRecDepth 20000 in
theorem ggX5_play_X5_many : GoodIn wsX5_play wsX5_many := goodIn_r _ [29] (by decide +kernel) (by decide +kernel)
set_option maxRecDepth 20000 in
theorem gX5_play_X5_many : GoodIn wsX5_play (va_wsS RX5 64 yX5_many wsX5_many) := goodIn_app (goodIn_of _ (by decide +kernel)) ggX5_play_X5_many
set_option maxRecDepth 20000 in
theorem ggX5_play_X5_isOver : GoodIn wsX5_play wsX5_isOver := goodIn_r _ [33, 9, 38, 39, 40, 41, 42, 43, 44, 45, 46] (by decide +kernel) (by decide +kernel)
set_option maxRecDepth 20000 in
theorem gX5_play_X5_isOver : GoodIn wsX5_play (wsV RX5 56 RX5 yX5_isOver wsX5_isOver) := goodIn_app (goodIn_of _ (by decide +kernel)) ggX5_play_X5_isOver
set_option maxRecDepth 20000 in
theorem ggX5_play_X5_setUp : GoodIn wsX5_play wsX5_setUp := goodIn_r _ [37, 1, 2, 38, 39, 40, 41, 42, 43, 44, 45, 46] (by decide +kernel) (by decide +kernel)
set_option maxRecDepth 20000 in
theorem gX5_play_X5_setUp : GoodIn wsX5_play (wsV RX5 74 RX5 yX5_setUp wsX5_setUp) := goodIn_app (goodIn_of _ (by decide +kernel)) ggX5_play_X5_setUp
theorem dX5_play_0 : decode cX5_play 0 = .ok (.aload_n 0, 1) := by decide +kernel
theorem dX5_play_1 : decode cX5_play 1 = .ok (.getfield 7, 3) := by decide +kernel
theorem dX5_play_4 : decode cX5_play 4 = .ok (.iload_n 1, 1) := by decide +kernel
theorem dX5_play_5 : decode cX5_play 5 = .ok (.iload_n 2, 1) := by decide +kernel
theorem dX5_play_6 : decode cX5_play 6 = .ok (.invokestatic 60, 3) := by decide +kernel
theorem dX5_play_9 : decode cX5_play 9 = .ok (.astore_n 3, 1) := by decide +kernel
theorem dX5_play_10 : decode cX5_play 10 = .ok (.aload_n 0, 1) := by decide +kernel
theorem dX5_play_11 : decode cX5_play 11 = .ok (.getfield 7, 3) := by decide +kernel
theorem dX5_play_14 : decode cX5_play 14 = .ok (.invokestatic 64, 3) := by decide +kernel
theorem dX5_play_17 : decode cX5_play 17 = .ok (.aload_n 3, 1) := by decide +kernel
theorem dX5_play_18 : decode cX5_play 18 = .ok (.invokestatic 64, 3) := by decide +kernel
theorem dX5_play_21 : decode cX5_play 21 = .ok (.isub, 1) := by decide +kernel
theorem dX5_play_22 : decode cX5_play 22 = .ok (.istore 4, 2) := by decide +kernel
theorem dX5_play_24 : decode cX5_play 24 = .ok (.iconst 0, 1) := by decide +kernel
theorem dX5_play_25 : decode cX5_play 25 = .ok (.istore 5, 2) := by decide +kernel
theorem dX5_play_27 : decode cX5_play 27 = .ok (.iload 5, 2) := by decide +kernel
theorem dX5_play_29 : decode cX5_play 29 = .ok (.bipush 9, 2) := by decide +kernel
theorem dX5_play_31 : decode cX5_play 31 = .ok (.if_icmp .ge 37, 3) := by decide +kernel
theorem dX5_play_34 : decode cX5_play 34 = .ok (.aload_n 0, 1) := by decide +kernel
theorem dX5_play_35 : decode cX5_play 35 = .ok (.getfield 7, 3) := by decide +kernel
theorem dX5_play_38 : decode cX5_play 38 = .ok (.iload 5, 2) := by decide +kernel
theorem dX5_play_40 : decode cX5_play 40 = .ok (.baload, 1) := by decide +kernel
theorem dX5_play_41 : decode cX5_play 41 = .ok (.ifCond .eq 21, 3) := by decide +kernel
theorem dX5_play_44 : decode cX5_play 44 = .ok (.aload_n 3, 1) := by decide +kernel
theorem dX5_play_45 : decode cX5_play 45 = .ok (.iload 5, 2) := by decide +kernel
theorem dX5_play_47 : decode cX5_play 47 = .ok (.baload, 1) := by decide +kernel
theorem dX5_play_48 : decode cX5_play 48 = .ok (.ifCond .ne 14, 3) := by decide +kernel
theorem dX5_play_51 : decode cX5_play 51 = .ok (.aload_n 0, 1) := by decide +kernel
