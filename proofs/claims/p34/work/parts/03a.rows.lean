theorem dX0_init_0 : decode cX0_init 0 = .ok (.aload_n 0, 1) := by decide +kernel
theorem dX0_init_1 : decode cX0_init 1 = .ok (.invokespecial 3, 3) := by decide +kernel
theorem dX0_init_4 : decode cX0_init 4 = .ok (.aload_n 0, 1) := by decide +kernel
theorem dX0_init_5 : decode cX0_init 5 = .ok (.bipush 9, 2) := by decide +kernel
theorem dX0_init_7 : decode cX0_init 7 = .ok (.newarray .int, 2) := by decide +kernel
theorem dX0_init_9 : decode cX0_init 9 = .ok (.putfield 9, 3) := by decide +kernel
theorem dX0_init_12 : decode cX0_init 12 = .ok (.aload_n 0, 1) := by decide +kernel
theorem dX0_init_13 : decode cX0_init 13 = .ok (.sipush 511, 3) := by decide +kernel
theorem dX0_init_16 : decode cX0_init 16 = .ok (.putfield 17, 3) := by decide +kernel
theorem dX0_init_19 : decode cX0_init 19 = .ok (.aload_n 0, 1) := by decide +kernel
theorem dX0_init_20 : decode cX0_init 20 = .ok (.iconst 3, 1) := by decide +kernel
theorem dX0_init_21 : decode cX0_init 21 = .ok (.putfield 21, 3) := by decide +kernel
theorem dX0_init_24 : decode cX0_init 24 = .ok (.return_, 1) := by decide +kernel
theorem dX0_standingPins_0 : decode cX0_standingPins 0 = .ok (.aload_n 0, 1) := by decide +kernel
theorem dX0_standingPins_1 : decode cX0_standingPins 1 = .ok (.getfield 17, 3) := by decide +kernel
theorem dX0_standingPins_4 : decode cX0_standingPins 4 = .ok (.ireturn, 1) := by decide +kernel
theorem dX0_spares_0 : decode cX0_spares 0 = .ok (.aload_n 0, 1) := by decide +kernel
theorem dX0_spares_1 : decode cX0_spares 1 = .ok (.getfield 21, 3) := by decide +kernel
theorem dX0_spares_4 : decode cX0_spares 4 = .ok (.ireturn, 1) := by decide +kernel
theorem dX0_wear_0 : decode cX0_wear 0 = .ok (.aload_n 0, 1) := by decide +kernel
theorem dX0_wear_1 : decode cX0_wear 1 = .ok (.getfield 9, 3) := by decide +kernel
theorem dX0_wear_4 : decode cX0_wear 4 = .ok (.iload_n 1, 1) := by decide +kernel
theorem dX0_wear_5 : decode cX0_wear 5 = .ok (.iaload, 1) := by decide +kernel
theorem dX0_wear_6 : decode cX0_wear 6 = .ok (.ireturn, 1) := by decide +kernel
theorem dX0_broken_0 : decode cX0_broken 0 = .ok (.aload_n 0, 1) := by decide +kernel
theorem dX0_broken_1 : decode cX0_broken 1 = .ok (.getfield 9, 3) := by decide +kernel
theorem dX0_broken_4 : decode cX0_broken 4 = .ok (.iload_n 1, 1) := by decide +kernel
theorem dX0_broken_5 : decode cX0_broken 5 = .ok (.iaload, 1) := by decide +kernel
theorem dX0_broken_6 : decode cX0_broken 6 = .ok (.bipush 12, 2) := by decide +kernel
theorem dX0_broken_8 : decode cX0_broken 8 = .ok (.if_icmp .lt 7, 3) := by decide +kernel
theorem dX0_broken_11 : decode cX0_broken 11 = .ok (.iconst 1, 1) := by decide +kernel
theorem dX0_broken_12 : decode cX0_broken 12 = .ok (.goto 4, 3) := by decide +kernel
theorem dX0_broken_15 : decode cX0_broken 15 = .ok (.iconst 0, 1) := by decide +kernel
theorem dX0_broken_16 : decode cX0_broken 16 = .ok (.ireturn, 1) := by decide +kernel
set_option maxRecDepth 20000 in
theorem ggX0_setUp_X0_broken : GoodIn wsX0_setUp wsX0_broken := goodIn_r _ [6, 7, 8, 9, 10] (by decide +kernel) (by decide +kernel)
set_option maxRecDepth 20000 in
theorem gX0_setUp_X0_broken : GoodIn wsX0_setUp (wsV RX0 24 RX0 yX0_broken wsX0_broken) := goodIn_app (goodIn_of _ (by decide +kernel)) ggX0_setUp_X0_broken
theorem dX0_setUp_0 : decode cX0_setUp 0 = .ok (.aload_n 0, 1) := by decide +kernel
theorem dX0_setUp_1 : decode cX0_setUp 1 = .ok (.iconst 0, 1) := by decide +kernel
theorem dX0_setUp_2 : decode cX0_setUp 2 = .ok (.putfield 17, 3) := by decide +kernel
theorem dX0_setUp_5 : decode cX0_setUp 5 = .ok (.iconst 0, 1) := by decide +kernel
theorem dX0_setUp_6 : decode cX0_setUp 6 = .ok (.istore_n 1, 1) := by decide +kernel
theorem dX0_setUp_7 : decode cX0_setUp 7 = .ok (.iload_n 1, 1) := by decide +kernel
theorem dX0_setUp_8 : decode cX0_setUp 8 = .ok (.bipush 9, 2) := by decide +kernel
theorem dX0_setUp_10 : decode cX0_setUp 10 = .ok (.if_icmp .ge 29, 3) := by decide +kernel
theorem dX0_setUp_13 : decode cX0_setUp 13 = .ok (.aload_n 0, 1) := by decide +kernel
theorem dX0_setUp_14 : decode cX0_setUp 14 = .ok (.iload_n 1, 1) := by decide +kernel
theorem dX0_setUp_15 : decode cX0_setUp 15 = .ok (.invokevirtual 24, 3) := by decide +kernel
theorem dX0_setUp_18 : decode cX0_setUp 18 = .ok (.ifCond .ne 15, 3) := by decide +kernel
theorem dX0_setUp_21 : decode cX0_setUp 21 = .ok (.aload_n 0, 1) := by decide +kernel
theorem dX0_setUp_22 : decode cX0_setUp 22 = .ok (.dup, 1) := by decide +kernel
theorem dX0_setUp_23 : decode cX0_setUp 23 = .ok (.getfield 17, 3) := by decide +kernel
theorem dX0_setUp_26 : decode cX0_setUp 26 = .ok (.iconst 1, 1) := by decide +kernel
theorem dX0_setUp_27 : decode cX0_setUp 27 = .ok (.iload_n 1, 1) := by decide +kernel
theorem dX0_setUp_28 : decode cX0_setUp 28 = .ok (.ishl, 1) := by decide +kernel
theorem dX0_setUp_29 : decode cX0_setUp 29 = .ok (.ior, 1) := by decide +kernel
theorem dX0_setUp_30 : decode cX0_setUp 30 = .ok (.putfield 17, 3) := by decide +kernel
theorem dX0_setUp_33 : decode cX0_setUp 33 = .ok (.iinc 1 1, 3) := by decide +kernel
theorem dX0_setUp_36 : decode cX0_setUp 36 = .ok (.goto (-29), 3) := by decide +kernel
theorem dX0_setUp_39 : decode cX0_setUp 39 = .ok (.return_, 1) := by decide +kernel
set_option maxRecDepth 20000 in
theorem ggX0_roll_X1_felled : GoodIn wsX0_roll wsX1_felled := goodIn_r _ [6, 7, 8, 5, 9, 10, 11, 12, 13, 14, 15, 16] (by decide +kernel) (by decide +kernel)
set_option maxRecDepth 20000 in
theorem gX0_roll_X1_felled : GoodIn wsX0_roll (va_wsS RX0 28 yX1_felled wsX1_felled) := goodIn_app (goodIn_of _ (by decide +kernel)) ggX0_roll_X1_felled
set_option maxRecDepth 20000 in
theorem ggX0_roll_X1_holds : GoodIn wsX0_roll wsX1_holds := goodIn_r _ [16] (by decide +kernel) (by decide +kernel)
set_option maxRecDepth 20000 in
theorem gX0_roll_X1_holds : GoodIn wsX0_roll (va_wsS RX0 32 yX1_holds wsX1_holds) := goodIn_app (goodIn_of _ (by decide +kernel)) ggX0_roll_X1_holds
set_option maxRecDepth 20000 in
theorem ggX0_roll_J6_bitCount_0f7a4 : GoodIn wsX0_roll wsJ6_bitCount_0f7a4 := goodIn_r _ [21, 22, 23, 24] (by decide +kernel) (by decide +kernel)
set_option maxRecDepth 20000 in
theorem gX0_roll_J6_bitCount_0f7a4 : GoodIn wsX0_roll (va_wsS RX0 36 yJ6_bitCount_0f7a4 wsJ6_bitCount_0f7a4) := goodIn_app (goodIn_of _ (by decide +kernel)) ggX0_roll_J6_bitCount_0f7a4
theorem dX0_roll_0 : decode cX0_roll 0 = .ok (.aload_n 0, 1) := by decide +kernel
theorem dX0_roll_1 : decode cX0_roll 1 = .ok (.getfield 17, 3) := by decide +kernel
theorem dX0_roll_4 : decode cX0_roll 4 = .ok (.iload_n 1, 1) := by decide +kernel
theorem dX0_roll_5 : decode cX0_roll 5 = .ok (.iload_n 2, 1) := by decide +kernel
theorem dX0_roll_6 : decode cX0_roll 6 = .ok (.invokestatic 28, 3) := by decide +kernel
theorem dX0_roll_9 : decode cX0_roll 9 = .ok (.istore_n 3, 1) := by decide +kernel
theorem dX0_roll_10 : decode cX0_roll 10 = .ok (.iconst 0, 1) := by decide +kernel
theorem dX0_roll_11 : decode cX0_roll 11 = .ok (.istore 4, 2) := by decide +kernel
theorem dX0_roll_13 : decode cX0_roll 13 = .ok (.iload 4, 2) := by decide +kernel
theorem dX0_roll_15 : decode cX0_roll 15 = .ok (.bipush 9, 2) := by decide +kernel
theorem dX0_roll_17 : decode cX0_roll 17 = .ok (.if_icmp .ge 29, 3) := by decide +kernel
theorem dX0_roll_20 : decode cX0_roll 20 = .ok (.iload_n 3, 1) := by decide +kernel
theorem dX0_roll_21 : decode cX0_roll 21 = .ok (.iload 4, 2) := by decide +kernel
theorem dX0_roll_23 : decode cX0_roll 23 = .ok (.invokestatic 32, 3) := by decide +kernel
theorem dX0_roll_26 : decode cX0_roll 26 = .ok (.ifCond .eq 14, 3) := by decide +kernel
theorem dX0_roll_29 : decode cX0_roll 29 = .ok (.aload_n 0, 1) := by decide +kernel
theorem dX0_roll_30 : decode cX0_roll 30 = .ok (.getfield 9, 3) := by decide +kernel
theorem dX0_roll_33 : decode cX0_roll 33 = .ok (.iload 4, 2) := by decide +kernel
theorem dX0_roll_35 : decode cX0_roll 35 = .ok (.dup2, 1) := by decide +kernel
theorem dX0_roll_36 : decode cX0_roll 36 = .ok (.iaload, 1) := by decide +kernel
theorem dX0_roll_37 : decode cX0_roll 37 = .ok (.iconst 1, 1) := by decide +kernel
theorem dX0_roll_38 : decode cX0_roll 38 = .ok (.iadd, 1) := by decide +kernel
theorem dX0_roll_39 : decode cX0_roll 39 = .ok (.iastore, 1) := by decide +kernel
theorem dX0_roll_40 : decode cX0_roll 40 = .ok (.iinc 4 1, 3) := by decide +kernel
theorem dX0_roll_43 : decode cX0_roll 43 = .ok (.goto (-30), 3) := by decide +kernel
theorem dX0_roll_46 : decode cX0_roll 46 = .ok (.aload_n 0, 1) := by decide +kernel
theorem dX0_roll_47 : decode cX0_roll 47 = .ok (.dup, 1) := by decide +kernel
theorem dX0_roll_48 : decode cX0_roll 48 = .ok (.getfield 17, 3) := by decide +kernel
theorem dX0_roll_51 : decode cX0_roll 51 = .ok (.iload_n 3, 1) := by decide +kernel
theorem dX0_roll_52 : decode cX0_roll 52 = .ok (.iconst (-1), 1) := by decide +kernel
theorem dX0_roll_53 : decode cX0_roll 53 = .ok (.ixor, 1) := by decide +kernel
theorem dX0_roll_54 : decode cX0_roll 54 = .ok (.iand, 1) := by decide +kernel
theorem dX0_roll_55 : decode cX0_roll 55 = .ok (.putfield 17, 3) := by decide +kernel
theorem dX0_roll_58 : decode cX0_roll 58 = .ok (.iload_n 3, 1) := by decide +kernel
theorem dX0_roll_59 : decode cX0_roll 59 = .ok (.invokestatic 36, 3) := by decide +kernel
theorem dX0_roll_62 : decode cX0_roll 62 = .ok (.ireturn, 1) := by decide +kernel
theorem dX0_replace_0 : decode cX0_replace 0 = .ok (.aload_n 0, 1) := by decide +kernel
theorem dX0_replace_1 : decode cX0_replace 1 = .ok (.dup, 1) := by decide +kernel
theorem dX0_replace_2 : decode cX0_replace 2 = .ok (.getfield 21, 3) := by decide +kernel
theorem dX0_replace_5 : decode cX0_replace 5 = .ok (.iconst 1, 1) := by decide +kernel
theorem dX0_replace_6 : decode cX0_replace 6 = .ok (.isub, 1) := by decide +kernel
theorem dX0_replace_7 : decode cX0_replace 7 = .ok (.putfield 21, 3) := by decide +kernel
theorem dX0_replace_10 : decode cX0_replace 10 = .ok (.aload_n 0, 1) := by decide +kernel
theorem dX0_replace_11 : decode cX0_replace 11 = .ok (.getfield 9, 3) := by decide +kernel
theorem dX0_replace_14 : decode cX0_replace 14 = .ok (.iload_n 1, 1) := by decide +kernel
theorem dX0_replace_15 : decode cX0_replace 15 = .ok (.iconst 0, 1) := by decide +kernel
theorem dX0_replace_16 : decode cX0_replace 16 = .ok (.iastore, 1) := by decide +kernel
theorem dX0_replace_17 : decode cX0_replace 17 = .ok (.return_, 1) := by decide +kernel
theorem dX0_stock_0 : decode cX0_stock 0 = .ok (.aload_n 0, 1) := by decide +kernel
theorem dX0_stock_1 : decode cX0_stock 1 = .ok (.dup, 1) := by decide +kernel
theorem dX0_stock_2 : decode cX0_stock 2 = .ok (.getfield 21, 3) := by decide +kernel
theorem dX0_stock_5 : decode cX0_stock 5 = .ok (.iload_n 1, 1) := by decide +kernel
theorem dX0_stock_6 : decode cX0_stock 6 = .ok (.iadd, 1) := by decide +kernel
theorem dX0_stock_7 : decode cX0_stock 7 = .ok (.putfield 21, 3) := by decide +kernel
theorem dX0_stock_10 : decode cX0_stock 10 = .ok (.return_, 1) := by decide +kernel
set_option maxRecDepth 20000 in
theorem ggX0_brokenCount_X0_broken : GoodIn wsX0_brokenCount wsX0_broken := goodIn_r _ [5, 6, 7, 8, 9] (by decide +kernel) (by decide +kernel)
set_option maxRecDepth 20000 in
theorem gX0_brokenCount_X0_broken : GoodIn wsX0_brokenCount (wsV RX0 24 RX0 yX0_broken wsX0_broken) := goodIn_app (goodIn_of _ (by decide +kernel)) ggX0_brokenCount_X0_broken
theorem dX0_brokenCount_0 : decode cX0_brokenCount 0 = .ok (.iconst 0, 1) := by decide +kernel
theorem dX0_brokenCount_1 : decode cX0_brokenCount 1 = .ok (.istore_n 1, 1) := by decide +kernel
theorem dX0_brokenCount_2 : decode cX0_brokenCount 2 = .ok (.iconst 0, 1) := by decide +kernel
theorem dX0_brokenCount_3 : decode cX0_brokenCount 3 = .ok (.istore_n 2, 1) := by decide +kernel
theorem dX0_brokenCount_4 : decode cX0_brokenCount 4 = .ok (.iload_n 2, 1) := by decide +kernel
theorem dX0_brokenCount_5 : decode cX0_brokenCount 5 = .ok (.bipush 9, 2) := by decide +kernel
theorem dX0_brokenCount_7 : decode cX0_brokenCount 7 = .ok (.if_icmp .ge 20, 3) := by decide +kernel
theorem dX0_brokenCount_10 : decode cX0_brokenCount 10 = .ok (.aload_n 0, 1) := by decide +kernel
theorem dX0_brokenCount_11 : decode cX0_brokenCount 11 = .ok (.iload_n 2, 1) := by decide +kernel
theorem dX0_brokenCount_12 : decode cX0_brokenCount 12 = .ok (.invokevirtual 24, 3) := by decide +kernel
theorem dX0_brokenCount_15 : decode cX0_brokenCount 15 = .ok (.ifCond .eq 6, 3) := by decide +kernel
theorem dX0_brokenCount_18 : decode cX0_brokenCount 18 = .ok (.iinc 1 1, 3) := by decide +kernel
theorem dX0_brokenCount_21 : decode cX0_brokenCount 21 = .ok (.iinc 2 1, 3) := by decide +kernel
theorem dX0_brokenCount_24 : decode cX0_brokenCount 24 = .ok (.goto (-20), 3) := by decide +kernel
theorem dX0_brokenCount_27 : decode cX0_brokenCount 27 = .ok (.iload_n 1, 1) := by decide +kernel
theorem dX0_brokenCount_28 : decode cX0_brokenCount 28 = .ok (.ireturn, 1) := by decide +kernel
set_option maxRecDepth 20000 in
theorem ggX0_brokenIfAllFell_X1_holds : GoodIn wsX0_brokenIfAllFell wsX1_holds := goodIn_r _ [6] (by decide +kernel) (by decide +kernel)
set_option maxRecDepth 20000 in
theorem gX0_brokenIfAllFell_X1_holds : GoodIn wsX0_brokenIfAllFell (va_wsS RX0 32 yX1_holds wsX1_holds) := goodIn_app (goodIn_of _ (by decide +kernel)) ggX0_brokenIfAllFell_X1_holds
theorem dX0_brokenIfAllFell_0 : decode cX0_brokenIfAllFell 0 = .ok (.iconst 0, 1) := by decide +kernel
theorem dX0_brokenIfAllFell_1 : decode cX0_brokenIfAllFell 1 = .ok (.istore_n 1, 1) := by decide +kernel
theorem dX0_brokenIfAllFell_2 : decode cX0_brokenIfAllFell 2 = .ok (.iconst 0, 1) := by decide +kernel
theorem dX0_brokenIfAllFell_3 : decode cX0_brokenIfAllFell 3 = .ok (.istore_n 2, 1) := by decide +kernel
theorem dX0_brokenIfAllFell_4 : decode cX0_brokenIfAllFell 4 = .ok (.iload_n 2, 1) := by decide +kernel
theorem dX0_brokenIfAllFell_5 : decode cX0_brokenIfAllFell 5 = .ok (.bipush 9, 2) := by decide +kernel
theorem dX0_brokenIfAllFell_7 : decode cX0_brokenIfAllFell 7 = .ok (.if_icmp .ge 42, 3) := by decide +kernel
theorem dX0_brokenIfAllFell_10 : decode cX0_brokenIfAllFell 10 = .ok (.aload_n 0, 1) := by decide +kernel
theorem dX0_brokenIfAllFell_11 : decode cX0_brokenIfAllFell 11 = .ok (.getfield 17, 3) := by decide +kernel
theorem dX0_brokenIfAllFell_14 : decode cX0_brokenIfAllFell 14 = .ok (.iload_n 2, 1) := by decide +kernel
theorem dX0_brokenIfAllFell_15 : decode cX0_brokenIfAllFell 15 = .ok (.invokestatic 32, 3) := by decide +kernel
theorem dX0_brokenIfAllFell_18 : decode cX0_brokenIfAllFell 18 = .ok (.ifCond .eq 7, 3) := by decide +kernel
theorem dX0_brokenIfAllFell_21 : decode cX0_brokenIfAllFell 21 = .ok (.iconst 1, 1) := by decide +kernel
theorem dX0_brokenIfAllFell_22 : decode cX0_brokenIfAllFell 22 = .ok (.goto 4, 3) := by decide +kernel
theorem dX0_brokenIfAllFell_25 : decode cX0_brokenIfAllFell 25 = .ok (.iconst 0, 1) := by decide +kernel
theorem dX0_brokenIfAllFell_26 : decode cX0_brokenIfAllFell 26 = .ok (.istore_n 3, 1) := by decide +kernel
theorem dX0_brokenIfAllFell_27 : decode cX0_brokenIfAllFell 27 = .ok (.aload_n 0, 1) := by decide +kernel
theorem dX0_brokenIfAllFell_28 : decode cX0_brokenIfAllFell 28 = .ok (.getfield 9, 3) := by decide +kernel
theorem dX0_brokenIfAllFell_31 : decode cX0_brokenIfAllFell 31 = .ok (.iload_n 2, 1) := by decide +kernel
theorem dX0_brokenIfAllFell_32 : decode cX0_brokenIfAllFell 32 = .ok (.iaload, 1) := by decide +kernel
theorem dX0_brokenIfAllFell_33 : decode cX0_brokenIfAllFell 33 = .ok (.iload_n 3, 1) := by decide +kernel
theorem dX0_brokenIfAllFell_34 : decode cX0_brokenIfAllFell 34 = .ok (.iadd, 1) := by decide +kernel
theorem dX0_brokenIfAllFell_35 : decode cX0_brokenIfAllFell 35 = .ok (.bipush 12, 2) := by decide +kernel
theorem dX0_brokenIfAllFell_37 : decode cX0_brokenIfAllFell 37 = .ok (.if_icmp .lt 6, 3) := by decide +kernel
theorem dX0_brokenIfAllFell_40 : decode cX0_brokenIfAllFell 40 = .ok (.iinc 1 1, 3) := by decide +kernel
theorem dX0_brokenIfAllFell_43 : decode cX0_brokenIfAllFell 43 = .ok (.iinc 2 1, 3) := by decide +kernel
theorem dX0_brokenIfAllFell_46 : decode cX0_brokenIfAllFell 46 = .ok (.goto (-42), 3) := by decide +kernel
theorem dX0_brokenIfAllFell_49 : decode cX0_brokenIfAllFell 49 = .ok (.iload_n 1, 1) := by decide +kernel
theorem dX0_brokenIfAllFell_50 : decode cX0_brokenIfAllFell 50 = .ok (.ireturn, 1) := by decide +kernel
set_option maxRecDepth 20000 in
theorem ggX0_mostWornPin_X0_broken : GoodIn wsX0_mostWornPin wsX0_broken := goodIn_r _ [6, 1, 7, 8, 9] (by decide +kernel) (by decide +kernel)
set_option maxRecDepth 20000 in
theorem gX0_mostWornPin_X0_broken : GoodIn wsX0_mostWornPin (wsV RX0 24 RX0 yX0_broken wsX0_broken) := goodIn_app (goodIn_of _ (by decide +kernel)) ggX0_mostWornPin_X0_broken
theorem dX0_mostWornPin_0 : decode cX0_mostWornPin 0 = .ok (.iconst (-1), 1) := by decide +kernel
theorem dX0_mostWornPin_1 : decode cX0_mostWornPin 1 = .ok (.istore_n 1, 1) := by decide +kernel
theorem dX0_mostWornPin_2 : decode cX0_mostWornPin 2 = .ok (.iconst (-1), 1) := by decide +kernel
theorem dX0_mostWornPin_3 : decode cX0_mostWornPin 3 = .ok (.istore_n 2, 1) := by decide +kernel
theorem dX0_mostWornPin_4 : decode cX0_mostWornPin 4 = .ok (.iconst 0, 1) := by decide +kernel
theorem dX0_mostWornPin_5 : decode cX0_mostWornPin 5 = .ok (.istore_n 3, 1) := by decide +kernel
theorem dX0_mostWornPin_6 : decode cX0_mostWornPin 6 = .ok (.iload_n 3, 1) := by decide +kernel
theorem dX0_mostWornPin_7 : decode cX0_mostWornPin 7 = .ok (.bipush 9, 2) := by decide +kernel
theorem dX0_mostWornPin_9 : decode cX0_mostWornPin 9 = .ok (.if_icmp .ge 36, 3) := by decide +kernel
theorem dX0_mostWornPin_12 : decode cX0_mostWornPin 12 = .ok (.aload_n 0, 1) := by decide +kernel
theorem dX0_mostWornPin_13 : decode cX0_mostWornPin 13 = .ok (.iload_n 3, 1) := by decide +kernel
theorem dX0_mostWornPin_14 : decode cX0_mostWornPin 14 = .ok (.invokevirtual 24, 3) := by decide +kernel
theorem dX0_mostWornPin_17 : decode cX0_mostWornPin 17 = .ok (.ifCond .ne 22, 3) := by decide +kernel
theorem dX0_mostWornPin_20 : decode cX0_mostWornPin 20 = .ok (.aload_n 0, 1) := by decide +kernel
theorem dX0_mostWornPin_21 : decode cX0_mostWornPin 21 = .ok (.getfield 9, 3) := by decide +kernel
theorem dX0_mostWornPin_24 : decode cX0_mostWornPin 24 = .ok (.iload_n 3, 1) := by decide +kernel
theorem dX0_mostWornPin_25 : decode cX0_mostWornPin 25 = .ok (.iaload, 1) := by decide +kernel
theorem dX0_mostWornPin_26 : decode cX0_mostWornPin 26 = .ok (.iload_n 2, 1) := by decide +kernel
theorem dX0_mostWornPin_27 : decode cX0_mostWornPin 27 = .ok (.if_icmp .le 12, 3) := by decide +kernel
theorem dX0_mostWornPin_30 : decode cX0_mostWornPin 30 = .ok (.iload_n 3, 1) := by decide +kernel
theorem dX0_mostWornPin_31 : decode cX0_mostWornPin 31 = .ok (.istore_n 1, 1) := by decide +kernel
theorem dX0_mostWornPin_32 : decode cX0_mostWornPin 32 = .ok (.aload_n 0, 1) := by decide +kernel
theorem dX0_mostWornPin_33 : decode cX0_mostWornPin 33 = .ok (.getfield 9, 3) := by decide +kernel
theorem dX0_mostWornPin_36 : decode cX0_mostWornPin 36 = .ok (.iload_n 3, 1) := by decide +kernel
theorem dX0_mostWornPin_37 : decode cX0_mostWornPin 37 = .ok (.iaload, 1) := by decide +kernel
theorem dX0_mostWornPin_38 : decode cX0_mostWornPin 38 = .ok (.istore_n 2, 1) := by decide +kernel
theorem dX0_mostWornPin_39 : decode cX0_mostWornPin 39 = .ok (.iinc 3 1, 3) := by decide +kernel
theorem dX0_mostWornPin_42 : decode cX0_mostWornPin 42 = .ok (.goto (-36), 3) := by decide +kernel
theorem dX0_mostWornPin_45 : decode cX0_mostWornPin 45 = .ok (.iload_n 1, 1) := by decide +kernel
theorem dX0_mostWornPin_46 : decode cX0_mostWornPin 46 = .ok (.ireturn, 1) := by decide +kernel
set_option maxRecDepth 20000 in
theorem ggX0_digestOn_X1_holds : GoodIn wsX0_digestOn wsX1_holds := goodIn_r _ [7] (by decide +kernel) (by decide +kernel)
set_option maxRecDepth 20000 in
theorem gX0_digestOn_X1_holds : GoodIn wsX0_digestOn (va_wsS RX0 32 yX1_holds wsX1_holds) := goodIn_app (goodIn_of _ (by decide +kernel)) ggX0_digestOn_X1_holds
theorem dX0_digestOn_0 : decode cX0_digestOn 0 = .ok (.lload_n 1, 1) := by decide +kernel
theorem dX0_digestOn_1 : decode cX0_digestOn 1 = .ok (.lstore_n 3, 1) := by decide +kernel
theorem dX0_digestOn_2 : decode cX0_digestOn 2 = .ok (.iconst 0, 1) := by decide +kernel
theorem dX0_digestOn_3 : decode cX0_digestOn 3 = .ok (.istore 5, 2) := by decide +kernel
theorem dX0_digestOn_5 : decode cX0_digestOn 5 = .ok (.iload 5, 2) := by decide +kernel
theorem dX0_digestOn_7 : decode cX0_digestOn 7 = .ok (.bipush 9, 2) := by decide +kernel
theorem dX0_digestOn_9 : decode cX0_digestOn 9 = .ok (.if_icmp .ge 49, 3) := by decide +kernel
theorem dX0_digestOn_12 : decode cX0_digestOn 12 = .ok (.lload_n 3, 1) := by decide +kernel
theorem dX0_digestOn_13 : decode cX0_digestOn 13 = .ok (.ldc2_w 42, 3) := by decide +kernel
theorem dX0_digestOn_16 : decode cX0_digestOn 16 = .ok (.lmul, 1) := by decide +kernel
theorem dX0_digestOn_17 : decode cX0_digestOn 17 = .ok (.aload_n 0, 1) := by decide +kernel
theorem dX0_digestOn_18 : decode cX0_digestOn 18 = .ok (.getfield 17, 3) := by decide +kernel
theorem dX0_digestOn_21 : decode cX0_digestOn 21 = .ok (.iload 5, 2) := by decide +kernel
theorem dX0_digestOn_23 : decode cX0_digestOn 23 = .ok (.invokestatic 32, 3) := by decide +kernel
theorem dX0_digestOn_26 : decode cX0_digestOn 26 = .ok (.ifCond .eq 7, 3) := by decide +kernel
theorem dX0_digestOn_29 : decode cX0_digestOn 29 = .ok (.iconst 1, 1) := by decide +kernel
theorem dX0_digestOn_30 : decode cX0_digestOn 30 = .ok (.goto 4, 3) := by decide +kernel
theorem dX0_digestOn_33 : decode cX0_digestOn 33 = .ok (.iconst 0, 1) := by decide +kernel
theorem dX0_digestOn_34 : decode cX0_digestOn 34 = .ok (.i2l, 1) := by decide +kernel
theorem dX0_digestOn_35 : decode cX0_digestOn 35 = .ok (.ladd, 1) := by decide +kernel
theorem dX0_digestOn_36 : decode cX0_digestOn 36 = .ok (.lstore_n 3, 1) := by decide +kernel
theorem dX0_digestOn_37 : decode cX0_digestOn 37 = .ok (.lload_n 3, 1) := by decide +kernel
theorem dX0_digestOn_38 : decode cX0_digestOn 38 = .ok (.ldc2_w 42, 3) := by decide +kernel
theorem dX0_digestOn_41 : decode cX0_digestOn 41 = .ok (.lmul, 1) := by decide +kernel
theorem dX0_digestOn_42 : decode cX0_digestOn 42 = .ok (.aload_n 0, 1) := by decide +kernel
theorem dX0_digestOn_43 : decode cX0_digestOn 43 = .ok (.getfield 9, 3) := by decide +kernel
theorem dX0_digestOn_46 : decode cX0_digestOn 46 = .ok (.iload 5, 2) := by decide +kernel
theorem dX0_digestOn_48 : decode cX0_digestOn 48 = .ok (.iaload, 1) := by decide +kernel
theorem dX0_digestOn_49 : decode cX0_digestOn 49 = .ok (.i2l, 1) := by decide +kernel
theorem dX0_digestOn_50 : decode cX0_digestOn 50 = .ok (.ladd, 1) := by decide +kernel
theorem dX0_digestOn_51 : decode cX0_digestOn 51 = .ok (.lstore_n 3, 1) := by decide +kernel
theorem dX0_digestOn_52 : decode cX0_digestOn 52 = .ok (.iinc 5 1, 3) := by decide +kernel
theorem dX0_digestOn_55 : decode cX0_digestOn 55 = .ok (.goto (-50), 3) := by decide +kernel
theorem dX0_digestOn_58 : decode cX0_digestOn 58 = .ok (.lload_n 3, 1) := by decide +kernel
theorem dX0_digestOn_59 : decode cX0_digestOn 59 = .ok (.lreturn, 1) := by decide +kernel
theorem dX1_holds_0 : decode cX1_holds 0 = .ok (.iload_n 0, 1) := by decide +kernel
theorem dX1_holds_1 : decode cX1_holds 1 = .ok (.iload_n 1, 1) := by decide +kernel
theorem dX1_holds_2 : decode cX1_holds 2 = .ok (.ishr, 1) := by decide +kernel
theorem dX1_holds_3 : decode cX1_holds 3 = .ok (.iconst 1, 1) := by decide +kernel
theorem dX1_holds_4 : decode cX1_holds 4 = .ok (.iand, 1) := by decide +kernel
theorem dX1_holds_5 : decode cX1_holds 5 = .ok (.ifCond .eq 7, 3) := by decide +kernel
theorem dX1_holds_8 : decode cX1_holds 8 = .ok (.iconst 1, 1) := by decide +kernel
theorem dX1_holds_9 : decode cX1_holds 9 = .ok (.goto 4, 3) := by decide +kernel
theorem dX1_holds_12 : decode cX1_holds 12 = .ok (.iconst 0, 1) := by decide +kernel
theorem dX1_holds_13 : decode cX1_holds 13 = .ok (.ireturn, 1) := by decide +kernel
set_option maxRecDepth 20000 in
theorem ggX1_last_X1_holds : GoodIn wsX1_last wsX1_holds := goodIn_r _ [4] (by decide +kernel) (by decide +kernel)
set_option maxRecDepth 20000 in
theorem gX1_last_X1_holds : GoodIn wsX1_last (va_wsS RX1 9 yX1_holds wsX1_holds) := goodIn_app (goodIn_of _ (by decide +kernel)) ggX1_last_X1_holds
theorem dX1_last_0 : decode cX1_last 0 = .ok (.bipush 8, 2) := by decide +kernel
theorem dX1_last_2 : decode cX1_last 2 = .ok (.istore_n 1, 1) := by decide +kernel
theorem dX1_last_3 : decode cX1_last 3 = .ok (.iload_n 1, 1) := by decide +kernel
theorem dX1_last_4 : decode cX1_last 4 = .ok (.ifCond .lt 19, 3) := by decide +kernel
theorem dX1_last_7 : decode cX1_last 7 = .ok (.iload_n 0, 1) := by decide +kernel
theorem dX1_last_8 : decode cX1_last 8 = .ok (.iload_n 1, 1) := by decide +kernel
theorem dX1_last_9 : decode cX1_last 9 = .ok (.invokestatic 9, 3) := by decide +kernel
theorem dX1_last_12 : decode cX1_last 12 = .ok (.ifCond .eq 5, 3) := by decide +kernel
theorem dX1_last_15 : decode cX1_last 15 = .ok (.iload_n 1, 1) := by decide +kernel
theorem dX1_last_16 : decode cX1_last 16 = .ok (.ireturn, 1) := by decide +kernel
theorem dX1_last_17 : decode cX1_last 17 = .ok (.iinc 1 (-1), 3) := by decide +kernel
theorem dX1_last_20 : decode cX1_last 20 = .ok (.goto (-17), 3) := by decide +kernel
theorem dX1_last_23 : decode cX1_last 23 = .ok (.iconst (-1), 1) := by decide +kernel
theorem dX1_last_24 : decode cX1_last 24 = .ok (.ireturn, 1) := by decide +kernel
set_option maxRecDepth 20000 in
theorem ggX1_felled_X1_afterHit : GoodIn wsX1_felled wsX1_afterHit := goodIn_r _ [4, 5, 6, 3, 7, 8, 9, 10, 11, 1, 2] (by decide +kernel) (by decide +kernel)
set_option maxRecDepth 20000 in
theorem gX1_felled_X1_afterHit : GoodIn wsX1_felled (va_wsS RX1 15 yX1_afterHit wsX1_afterHit) := goodIn_app (goodIn_of _ (by decide +kernel)) ggX1_felled_X1_afterHit
theorem dX1_felled_0 : decode cX1_felled 0 = .ok (.iload_n 0, 1) := by decide +kernel
theorem dX1_felled_1 : decode cX1_felled 1 = .ok (.istore_n 3, 1) := by decide +kernel
theorem dX1_felled_2 : decode cX1_felled 2 = .ok (.iload_n 1, 1) := by decide +kernel
theorem dX1_felled_3 : decode cX1_felled 3 = .ok (.iconst 2, 1) := by decide +kernel
theorem dX1_felled_4 : decode cX1_felled 4 = .ok (.iadd, 1) := by decide +kernel
theorem dX1_felled_5 : decode cX1_felled 5 = .ok (.istore 4, 2) := by decide +kernel
theorem dX1_felled_7 : decode cX1_felled 7 = .ok (.iconst 0, 1) := by decide +kernel
theorem dX1_felled_8 : decode cX1_felled 8 = .ok (.istore 5, 2) := by decide +kernel
theorem dX1_felled_10 : decode cX1_felled 10 = .ok (.iload 5, 2) := by decide +kernel
theorem dX1_felled_12 : decode cX1_felled 12 = .ok (.iconst 5, 1) := by decide +kernel
theorem dX1_felled_13 : decode cX1_felled 13 = .ok (.if_icmp .ge 37, 3) := by decide +kernel
theorem dX1_felled_16 : decode cX1_felled 16 = .ok (.iload 4, 2) := by decide +kernel
theorem dX1_felled_18 : decode cX1_felled 18 = .ok (.ifCond .le 32, 3) := by decide +kernel
theorem dX1_felled_21 : decode cX1_felled 21 = .ok (.iload_n 3, 1) := by decide +kernel
theorem dX1_felled_22 : decode cX1_felled 22 = .ok (.iload 5, 2) := by decide +kernel
theorem dX1_felled_24 : decode cX1_felled 24 = .ok (.iload_n 2, 1) := by decide +kernel
theorem dX1_felled_25 : decode cX1_felled 25 = .ok (.iload 4, 2) := by decide +kernel
theorem dX1_felled_27 : decode cX1_felled 27 = .ok (.invokestatic 15, 3) := by decide +kernel
theorem dX1_felled_30 : decode cX1_felled 30 = .ok (.istore 6, 2) := by decide +kernel
theorem dX1_felled_32 : decode cX1_felled 32 = .ok (.iload 6, 2) := by decide +kernel
theorem dX1_felled_34 : decode cX1_felled 34 = .ok (.iload_n 3, 1) := by decide +kernel
theorem dX1_felled_35 : decode cX1_felled 35 = .ok (.if_icmp .eq 9, 3) := by decide +kernel
theorem dX1_felled_38 : decode cX1_felled 38 = .ok (.iload 6, 2) := by decide +kernel
theorem dX1_felled_40 : decode cX1_felled 40 = .ok (.istore_n 3, 1) := by decide +kernel
theorem dX1_felled_41 : decode cX1_felled 41 = .ok (.iinc 4 (-1), 3) := by decide +kernel
theorem dX1_felled_44 : decode cX1_felled 44 = .ok (.iinc 5 1, 3) := by decide +kernel
theorem dX1_felled_47 : decode cX1_felled 47 = .ok (.goto (-37), 3) := by decide +kernel
theorem dX1_felled_50 : decode cX1_felled 50 = .ok (.iload_n 0, 1) := by decide +kernel
theorem dX1_felled_51 : decode cX1_felled 51 = .ok (.iload_n 3, 1) := by decide +kernel
theorem dX1_felled_52 : decode cX1_felled 52 = .ok (.iconst (-1), 1) := by decide +kernel
theorem dX1_felled_53 : decode cX1_felled 53 = .ok (.ixor, 1) := by decide +kernel
theorem dX1_felled_54 : decode cX1_felled 54 = .ok (.iand, 1) := by decide +kernel
theorem dX1_felled_55 : decode cX1_felled 55 = .ok (.ireturn, 1) := by decide +kernel
set_option maxRecDepth 20000 in
theorem ggX1_afterHit_X1_pinAt : GoodIn wsX1_afterHit wsX1_pinAt := goodIn_r _ [4, 5] (by decide +kernel) (by decide +kernel)
set_option maxRecDepth 20000 in
theorem gX1_afterHit_X1_pinAt : GoodIn wsX1_afterHit (va_wsS RX1 19 yX1_pinAt wsX1_pinAt) := goodIn_app (goodIn_of _ (by decide +kernel)) ggX1_afterHit_X1_pinAt
set_option maxRecDepth 20000 in
theorem ggX1_afterHit_X1_holds : GoodIn wsX1_afterHit wsX1_holds := goodIn_r _ [8] (by decide +kernel) (by decide +kernel)
set_option maxRecDepth 20000 in
theorem gX1_afterHit_X1_holds : GoodIn wsX1_afterHit (va_wsS RX1 9 yX1_holds wsX1_holds) := goodIn_app (goodIn_of _ (by decide +kernel)) ggX1_afterHit_X1_holds
set_option maxRecDepth 20000 in
theorem ggX1_afterHit_X1_afterHit : GoodIn wsX1_afterHit wsX1_afterHit := goodIn_r _ [0, 1, 2, 3, 4, 5, 6, 7, 8, 9, 10] (by decide +kernel) (by decide +kernel)
set_option maxRecDepth 20000 in
theorem gX1_afterHit_X1_afterHit : GoodIn wsX1_afterHit (va_wsS RX1 15 yX1_afterHit wsX1_afterHit) := goodIn_app (goodIn_of _ (by decide +kernel)) ggX1_afterHit_X1_afterHit
theorem dX1_afterHit_0 : decode cX1_afterHit 0 = .ok (.iload_n 1, 1) := by decide +kernel
theorem dX1_afterHit_1 : decode cX1_afterHit 1 = .ok (.iload_n 2, 1) := by decide +kernel
theorem dX1_afterHit_2 : decode cX1_afterHit 2 = .ok (.invokestatic 19, 3) := by decide +kernel
theorem dX1_afterHit_5 : decode cX1_afterHit 5 = .ok (.istore 4, 2) := by decide +kernel
theorem dX1_afterHit_7 : decode cX1_afterHit 7 = .ok (.iload_n 3, 1) := by decide +kernel
theorem dX1_afterHit_8 : decode cX1_afterHit 8 = .ok (.iconst 1, 1) := by decide +kernel
theorem dX1_afterHit_9 : decode cX1_afterHit 9 = .ok (.if_icmp .lt 18, 3) := by decide +kernel
theorem dX1_afterHit_12 : decode cX1_afterHit 12 = .ok (.iload 4, 2) := by decide +kernel
theorem dX1_afterHit_14 : decode cX1_afterHit 14 = .ok (.iconst (-1), 1) := by decide +kernel
theorem dX1_afterHit_15 : decode cX1_afterHit 15 = .ok (.if_icmp .eq 12, 3) := by decide +kernel
theorem dX1_afterHit_18 : decode cX1_afterHit 18 = .ok (.iload_n 0, 1) := by decide +kernel
theorem dX1_afterHit_19 : decode cX1_afterHit 19 = .ok (.iload 4, 2) := by decide +kernel
theorem dX1_afterHit_21 : decode cX1_afterHit 21 = .ok (.invokestatic 9, 3) := by decide +kernel
theorem dX1_afterHit_24 : decode cX1_afterHit 24 = .ok (.ifCond .ne 5, 3) := by decide +kernel
theorem dX1_afterHit_27 : decode cX1_afterHit 27 = .ok (.iload_n 0, 1) := by decide +kernel
theorem dX1_afterHit_28 : decode cX1_afterHit 28 = .ok (.ireturn, 1) := by decide +kernel
theorem dX1_afterHit_29 : decode cX1_afterHit 29 = .ok (.iload_n 0, 1) := by decide +kernel
theorem dX1_afterHit_30 : decode cX1_afterHit 30 = .ok (.iconst 1, 1) := by decide +kernel
theorem dX1_afterHit_31 : decode cX1_afterHit 31 = .ok (.iload 4, 2) := by decide +kernel
theorem dX1_afterHit_33 : decode cX1_afterHit 33 = .ok (.ishl, 1) := by decide +kernel
theorem dX1_afterHit_34 : decode cX1_afterHit 34 = .ok (.iconst (-1), 1) := by decide +kernel
theorem dX1_afterHit_35 : decode cX1_afterHit 35 = .ok (.ixor, 1) := by decide +kernel
theorem dX1_afterHit_36 : decode cX1_afterHit 36 = .ok (.iand, 1) := by decide +kernel
theorem dX1_afterHit_37 : decode cX1_afterHit 37 = .ok (.istore 5, 2) := by decide +kernel
theorem dX1_afterHit_39 : decode cX1_afterHit 39 = .ok (.iload 5, 2) := by decide +kernel
theorem dX1_afterHit_41 : decode cX1_afterHit 41 = .ok (.iload_n 1, 1) := by decide +kernel
theorem dX1_afterHit_42 : decode cX1_afterHit 42 = .ok (.iconst 1, 1) := by decide +kernel
theorem dX1_afterHit_43 : decode cX1_afterHit 43 = .ok (.iadd, 1) := by decide +kernel
theorem dX1_afterHit_44 : decode cX1_afterHit 44 = .ok (.iload_n 2, 1) := by decide +kernel
theorem dX1_afterHit_45 : decode cX1_afterHit 45 = .ok (.iconst 1, 1) := by decide +kernel
theorem dX1_afterHit_46 : decode cX1_afterHit 46 = .ok (.isub, 1) := by decide +kernel
theorem dX1_afterHit_47 : decode cX1_afterHit 47 = .ok (.iload_n 3, 1) := by decide +kernel
theorem dX1_afterHit_48 : decode cX1_afterHit 48 = .ok (.iconst 2, 1) := by decide +kernel
theorem dX1_afterHit_49 : decode cX1_afterHit 49 = .ok (.isub, 1) := by decide +kernel
theorem dX1_afterHit_50 : decode cX1_afterHit 50 = .ok (.invokestatic 15, 3) := by decide +kernel
theorem dX1_afterHit_53 : decode cX1_afterHit 53 = .ok (.istore 5, 2) := by decide +kernel
theorem dX1_afterHit_55 : decode cX1_afterHit 55 = .ok (.iload 5, 2) := by decide +kernel
theorem dX1_afterHit_57 : decode cX1_afterHit 57 = .ok (.iload_n 1, 1) := by decide +kernel
theorem dX1_afterHit_58 : decode cX1_afterHit 58 = .ok (.iconst 1, 1) := by decide +kernel
theorem dX1_afterHit_59 : decode cX1_afterHit 59 = .ok (.iadd, 1) := by decide +kernel
theorem dX1_afterHit_60 : decode cX1_afterHit 60 = .ok (.iload_n 2, 1) := by decide +kernel
theorem dX1_afterHit_61 : decode cX1_afterHit 61 = .ok (.iconst 1, 1) := by decide +kernel
theorem dX1_afterHit_62 : decode cX1_afterHit 62 = .ok (.iadd, 1) := by decide +kernel
theorem dX1_afterHit_63 : decode cX1_afterHit 63 = .ok (.iload_n 3, 1) := by decide +kernel
theorem dX1_afterHit_64 : decode cX1_afterHit 64 = .ok (.iconst 2, 1) := by decide +kernel
theorem dX1_afterHit_65 : decode cX1_afterHit 65 = .ok (.isub, 1) := by decide +kernel
theorem dX1_afterHit_66 : decode cX1_afterHit 66 = .ok (.invokestatic 15, 3) := by decide +kernel
theorem dX1_afterHit_69 : decode cX1_afterHit 69 = .ok (.ireturn, 1) := by decide +kernel
set_option maxRecDepth 20000 in
theorem ggX1_canClear_X1_holds : GoodIn wsX1_canClear wsX1_holds := goodIn_r _ [4] (by decide +kernel) (by decide +kernel)
set_option maxRecDepth 20000 in
theorem gX1_canClear_X1_holds : GoodIn wsX1_canClear (va_wsS RX1 9 yX1_holds wsX1_holds) := goodIn_app (goodIn_of _ (by decide +kernel)) ggX1_canClear_X1_holds
set_option maxRecDepth 20000 in
theorem ggX1_canClear_X1_felled : GoodIn wsX1_canClear wsX1_felled := goodIn_r _ [7, 8, 9, 3, 10, 11, 12, 13, 14, 1, 2, 4] (by decide +kernel) (by decide +kernel)
set_option maxRecDepth 20000 in
theorem gX1_canClear_X1_felled : GoodIn wsX1_canClear (va_wsS RX1 23 yX1_felled wsX1_felled) := goodIn_app (goodIn_of _ (by decide +kernel)) ggX1_canClear_X1_felled
set_option maxRecDepth 20000 in
theorem ggX1_canClear_X1_canClear : GoodIn wsX1_canClear wsX1_canClear := goodIn_r _ [0, 1, 2, 3, 4, 5, 6, 7, 8, 9, 10, 11, 12, 13, 14, 15, 16] (by decide +kernel) (by decide +kernel)
set_option maxRecDepth 20000 in
theorem gX1_canClear_X1_canClear : GoodIn wsX1_canClear (va_wsS RX1 27 yX1_canClear wsX1_canClear) := goodIn_app (goodIn_of _ (by decide +kernel)) ggX1_canClear_X1_canClear
theorem dX1_canClear_0 : decode cX1_canClear 0 = .ok (.iload_n 0, 1) := by decide +kernel
theorem dX1_canClear_1 : decode cX1_canClear 1 = .ok (.ifCond .eq 7, 3) := by decide +kernel
theorem dX1_canClear_4 : decode cX1_canClear 4 = .ok (.iload_n 2, 1) := by decide +kernel
theorem dX1_canClear_5 : decode cX1_canClear 5 = .ok (.ifCond .gt 13, 3) := by decide +kernel
theorem dX1_canClear_8 : decode cX1_canClear 8 = .ok (.iload_n 0, 1) := by decide +kernel
theorem dX1_canClear_9 : decode cX1_canClear 9 = .ok (.ifCond .ne 7, 3) := by decide +kernel
theorem dX1_canClear_12 : decode cX1_canClear 12 = .ok (.iconst 1, 1) := by decide +kernel
theorem dX1_canClear_13 : decode cX1_canClear 13 = .ok (.goto 4, 3) := by decide +kernel
theorem dX1_canClear_16 : decode cX1_canClear 16 = .ok (.iconst 0, 1) := by decide +kernel
theorem dX1_canClear_17 : decode cX1_canClear 17 = .ok (.ireturn, 1) := by decide +kernel
theorem dX1_canClear_18 : decode cX1_canClear 18 = .ok (.iconst 0, 1) := by decide +kernel
theorem dX1_canClear_19 : decode cX1_canClear 19 = .ok (.istore_n 3, 1) := by decide +kernel
theorem dX1_canClear_20 : decode cX1_canClear 20 = .ok (.iload_n 3, 1) := by decide +kernel
theorem dX1_canClear_21 : decode cX1_canClear 21 = .ok (.iconst 5, 1) := by decide +kernel
theorem dX1_canClear_22 : decode cX1_canClear 22 = .ok (.if_icmp .ge 68, 3) := by decide +kernel
theorem dX1_canClear_25 : decode cX1_canClear 25 = .ok (.iconst 0, 1) := by decide +kernel
theorem dX1_canClear_26 : decode cX1_canClear 26 = .ok (.istore 4, 2) := by decide +kernel
theorem dX1_canClear_28 : decode cX1_canClear 28 = .ok (.iload 4, 2) := by decide +kernel
theorem dX1_canClear_30 : decode cX1_canClear 30 = .ok (.iconst 5, 1) := by decide +kernel
theorem dX1_canClear_31 : decode cX1_canClear 31 = .ok (.if_icmp .ge 53, 3) := by decide +kernel
theorem dX1_canClear_34 : decode cX1_canClear 34 = .ok (.iload_n 1, 1) := by decide +kernel
theorem dX1_canClear_35 : decode cX1_canClear 35 = .ok (.iload_n 3, 1) := by decide +kernel
theorem dX1_canClear_36 : decode cX1_canClear 36 = .ok (.invokestatic 9, 3) := by decide +kernel
theorem dX1_canClear_39 : decode cX1_canClear 39 = .ok (.ifCond .ne 45, 3) := by decide +kernel
theorem dX1_canClear_42 : decode cX1_canClear 42 = .ok (.iload_n 0, 1) := by decide +kernel
theorem dX1_canClear_43 : decode cX1_canClear 43 = .ok (.iload_n 3, 1) := by decide +kernel
theorem dX1_canClear_44 : decode cX1_canClear 44 = .ok (.iload 4, 2) := by decide +kernel
theorem dX1_canClear_46 : decode cX1_canClear 46 = .ok (.invokestatic 23, 3) := by decide +kernel
theorem dX1_canClear_49 : decode cX1_canClear 49 = .ok (.istore 5, 2) := by decide +kernel
theorem dX1_canClear_51 : decode cX1_canClear 51 = .ok (.iload 5, 2) := by decide +kernel
theorem dX1_canClear_53 : decode cX1_canClear 53 = .ok (.ifCond .eq 25, 3) := by decide +kernel
theorem dX1_canClear_56 : decode cX1_canClear 56 = .ok (.iload_n 0, 1) := by decide +kernel
theorem dX1_canClear_57 : decode cX1_canClear 57 = .ok (.iload 5, 2) := by decide +kernel
theorem dX1_canClear_59 : decode cX1_canClear 59 = .ok (.iconst (-1), 1) := by decide +kernel
theorem dX1_canClear_60 : decode cX1_canClear 60 = .ok (.ixor, 1) := by decide +kernel
theorem dX1_canClear_61 : decode cX1_canClear 61 = .ok (.iand, 1) := by decide +kernel
theorem dX1_canClear_62 : decode cX1_canClear 62 = .ok (.iload_n 1, 1) := by decide +kernel
theorem dX1_canClear_63 : decode cX1_canClear 63 = .ok (.iconst 1, 1) := by decide +kernel
theorem dX1_canClear_64 : decode cX1_canClear 64 = .ok (.iload_n 3, 1) := by decide +kernel
theorem dX1_canClear_65 : decode cX1_canClear 65 = .ok (.ishl, 1) := by decide +kernel
theorem dX1_canClear_66 : decode cX1_canClear 66 = .ok (.ior, 1) := by decide +kernel
theorem dX1_canClear_67 : decode cX1_canClear 67 = .ok (.iload_n 2, 1) := by decide +kernel
theorem dX1_canClear_68 : decode cX1_canClear 68 = .ok (.iconst 1, 1) := by decide +kernel
theorem dX1_canClear_69 : decode cX1_canClear 69 = .ok (.isub, 1) := by decide +kernel
theorem dX1_canClear_70 : decode cX1_canClear 70 = .ok (.invokestatic 27, 3) := by decide +kernel
theorem dX1_canClear_73 : decode cX1_canClear 73 = .ok (.ifCond .eq 5, 3) := by decide +kernel
theorem dX1_canClear_76 : decode cX1_canClear 76 = .ok (.iconst 1, 1) := by decide +kernel
theorem dX1_canClear_77 : decode cX1_canClear 77 = .ok (.ireturn, 1) := by decide +kernel
theorem dX1_canClear_78 : decode cX1_canClear 78 = .ok (.iinc 4 1, 3) := by decide +kernel
theorem dX1_canClear_81 : decode cX1_canClear 81 = .ok (.goto (-53), 3) := by decide +kernel
theorem dX1_canClear_84 : decode cX1_canClear 84 = .ok (.iinc 3 1, 3) := by decide +kernel
theorem dX1_canClear_87 : decode cX1_canClear 87 = .ok (.goto (-67), 3) := by decide +kernel
theorem dX1_canClear_90 : decode cX1_canClear 90 = .ok (.iconst 0, 1) := by decide +kernel
theorem dX1_canClear_91 : decode cX1_canClear 91 = .ok (.ireturn, 1) := by decide +kernel
theorem dX1_pinAt_0 : decode cX1_pinAt 0 = .ok (.iload_n 0, 1) := by decide +kernel
theorem dX1_pinAt_1 : decode cX1_pinAt 1 = .ok (.ifCond .lt 17, 3) := by decide +kernel
theorem dX1_pinAt_4 : decode cX1_pinAt 4 = .ok (.iload_n 0, 1) := by decide +kernel
theorem dX1_pinAt_5 : decode cX1_pinAt 5 = .ok (.iconst 5, 1) := by decide +kernel
theorem dX1_pinAt_6 : decode cX1_pinAt 6 = .ok (.if_icmp .ge 12, 3) := by decide +kernel
theorem dX1_pinAt_9 : decode cX1_pinAt 9 = .ok (.iload_n 1, 1) := by decide +kernel
theorem dX1_pinAt_10 : decode cX1_pinAt 10 = .ok (.ifCond .lt 8, 3) := by decide +kernel
theorem dX1_pinAt_13 : decode cX1_pinAt 13 = .ok (.iload_n 1, 1) := by decide +kernel
theorem dX1_pinAt_14 : decode cX1_pinAt 14 = .ok (.iconst 5, 1) := by decide +kernel
theorem dX1_pinAt_15 : decode cX1_pinAt 15 = .ok (.if_icmp .lt 5, 3) := by decide +kernel
theorem dX1_pinAt_18 : decode cX1_pinAt 18 = .ok (.iconst (-1), 1) := by decide +kernel
theorem dX1_pinAt_19 : decode cX1_pinAt 19 = .ok (.ireturn, 1) := by decide +kernel
theorem dX1_pinAt_20 : decode cX1_pinAt 20 = .ok (.getstatic 31, 3) := by decide +kernel
theorem dX1_pinAt_23 : decode cX1_pinAt 23 = .ok (.iload_n 0, 1) := by decide +kernel
theorem dX1_pinAt_24 : decode cX1_pinAt 24 = .ok (.iconst 5, 1) := by decide +kernel
theorem dX1_pinAt_25 : decode cX1_pinAt 25 = .ok (.imul, 1) := by decide +kernel
theorem dX1_pinAt_26 : decode cX1_pinAt 26 = .ok (.iload_n 1, 1) := by decide +kernel
theorem dX1_pinAt_27 : decode cX1_pinAt 27 = .ok (.iadd, 1) := by decide +kernel
theorem dX1_pinAt_28 : decode cX1_pinAt 28 = .ok (.iaload, 1) := by decide +kernel
theorem dX1_pinAt_29 : decode cX1_pinAt 29 = .ok (.ireturn, 1) := by decide +kernel
theorem dX2_init_0 : decode cX2_init 0 = .ok (.aload_n 0, 1) := by decide +kernel
theorem dX2_init_1 : decode cX2_init 1 = .ok (.invokespecial 3, 3) := by decide +kernel
theorem dX2_init_4 : decode cX2_init 4 = .ok (.aload_n 0, 1) := by decide +kernel
theorem dX2_init_5 : decode cX2_init 5 = .ok (.iconst 5, 1) := by decide +kernel
theorem dX2_init_6 : decode cX2_init 6 = .ok (.newarray .int, 2) := by decide +kernel
theorem dX2_init_8 : decode cX2_init 8 = .ok (.putfield 9, 3) := by decide +kernel
theorem dX2_init_11 : decode cX2_init 11 = .ok (.return_, 1) := by decide +kernel
theorem dX2_throwsAway_0 : decode cX2_throwsAway 0 = .ok (.aload_n 0, 1) := by decide +kernel
theorem dX2_throwsAway_1 : decode cX2_throwsAway 1 = .ok (.getfield 9, 3) := by decide +kernel
theorem dX2_throwsAway_4 : decode cX2_throwsAway 4 = .ok (.iload_n 1, 1) := by decide +kernel
theorem dX2_throwsAway_5 : decode cX2_throwsAway 5 = .ok (.iaload, 1) := by decide +kernel
theorem dX2_throwsAway_6 : decode cX2_throwsAway 6 = .ok (.ireturn, 1) := by decide +kernel
theorem dX2_send_0 : decode cX2_send 0 = .ok (.iconst 0, 1) := by decide +kernel
theorem dX2_send_1 : decode cX2_send 1 = .ok (.istore_n 2, 1) := by decide +kernel
theorem dX2_send_2 : decode cX2_send 2 = .ok (.iload_n 2, 1) := by decide +kernel
theorem dX2_send_3 : decode cX2_send 3 = .ok (.iconst 5, 1) := by decide +kernel
theorem dX2_send_4 : decode cX2_send 4 = .ok (.if_icmp .ge 27, 3) := by decide +kernel
theorem dX2_send_7 : decode cX2_send 7 = .ok (.aload_n 0, 1) := by decide +kernel
theorem dX2_send_8 : decode cX2_send 8 = .ok (.getfield 9, 3) := by decide +kernel
theorem dX2_send_11 : decode cX2_send 11 = .ok (.iload_n 2, 1) := by decide +kernel
theorem dX2_send_12 : decode cX2_send 12 = .ok (.iconst 0, 1) := by decide +kernel
theorem dX2_send_13 : decode cX2_send 13 = .ok (.aload_n 0, 1) := by decide +kernel
theorem dX2_send_14 : decode cX2_send 14 = .ok (.getfield 9, 3) := by decide +kernel
theorem dX2_send_17 : decode cX2_send 17 = .ok (.iload_n 2, 1) := by decide +kernel
theorem dX2_send_18 : decode cX2_send 18 = .ok (.iaload, 1) := by decide +kernel
theorem dX2_send_19 : decode cX2_send 19 = .ok (.iconst 1, 1) := by decide +kernel
theorem dX2_send_20 : decode cX2_send 20 = .ok (.isub, 1) := by decide +kernel
theorem dX2_send_21 : decode cX2_send 21 = .ok (.invokestatic 15, 3) := by decide +kernel
theorem dX2_send_24 : decode cX2_send 24 = .ok (.iastore, 1) := by decide +kernel
theorem dX2_send_25 : decode cX2_send 25 = .ok (.iinc 2 1, 3) := by decide +kernel
theorem dX2_send_28 : decode cX2_send 28 = .ok (.goto (-26), 3) := by decide +kernel
theorem dX2_send_31 : decode cX2_send 31 = .ok (.aload_n 0, 1) := by decide +kernel
theorem dX2_send_32 : decode cX2_send 32 = .ok (.getfield 9, 3) := by decide +kernel
theorem dX2_send_35 : decode cX2_send 35 = .ok (.iload_n 1, 1) := by decide +kernel
theorem dX2_send_36 : decode cX2_send 36 = .ok (.iconst 2, 1) := by decide +kernel
theorem dX2_send_37 : decode cX2_send 37 = .ok (.iastore, 1) := by decide +kernel
theorem dX2_send_38 : decode cX2_send 38 = .ok (.return_, 1) := by decide +kernel
theorem dX2_returnAll_0 : decode cX2_returnAll 0 = .ok (.iconst 0, 1) := by decide +kernel
theorem dX2_returnAll_1 : decode cX2_returnAll 1 = .ok (.istore_n 1, 1) := by decide +kernel
theorem dX2_returnAll_2 : decode cX2_returnAll 2 = .ok (.iload_n 1, 1) := by decide +kernel
theorem dX2_returnAll_3 : decode cX2_returnAll 3 = .ok (.iconst 5, 1) := by decide +kernel
theorem dX2_returnAll_4 : decode cX2_returnAll 4 = .ok (.if_icmp .ge 16, 3) := by decide +kernel
theorem dX2_returnAll_7 : decode cX2_returnAll 7 = .ok (.aload_n 0, 1) := by decide +kernel
theorem dX2_returnAll_8 : decode cX2_returnAll 8 = .ok (.getfield 9, 3) := by decide +kernel
theorem dX2_returnAll_11 : decode cX2_returnAll 11 = .ok (.iload_n 1, 1) := by decide +kernel
theorem dX2_returnAll_12 : decode cX2_returnAll 12 = .ok (.iconst 0, 1) := by decide +kernel
theorem dX2_returnAll_13 : decode cX2_returnAll 13 = .ok (.iastore, 1) := by decide +kernel
theorem dX2_returnAll_14 : decode cX2_returnAll 14 = .ok (.iinc 1 1, 3) := by decide +kernel
theorem dX2_returnAll_17 : decode cX2_returnAll 17 = .ok (.goto (-15), 3) := by decide +kernel
theorem dX2_returnAll_20 : decode cX2_returnAll 20 = .ok (.return_, 1) := by decide +kernel
theorem dX2_digestOn_0 : decode cX2_digestOn 0 = .ok (.lload_n 1, 1) := by decide +kernel
theorem dX2_digestOn_1 : decode cX2_digestOn 1 = .ok (.lstore_n 3, 1) := by decide +kernel
theorem dX2_digestOn_2 : decode cX2_digestOn 2 = .ok (.iconst 0, 1) := by decide +kernel
theorem dX2_digestOn_3 : decode cX2_digestOn 3 = .ok (.istore 5, 2) := by decide +kernel
theorem dX2_digestOn_5 : decode cX2_digestOn 5 = .ok (.iload 5, 2) := by decide +kernel
theorem dX2_digestOn_7 : decode cX2_digestOn 7 = .ok (.iconst 5, 1) := by decide +kernel
theorem dX2_digestOn_8 : decode cX2_digestOn 8 = .ok (.if_icmp .ge 24, 3) := by decide +kernel
theorem dX2_digestOn_11 : decode cX2_digestOn 11 = .ok (.lload_n 3, 1) := by decide +kernel
theorem dX2_digestOn_12 : decode cX2_digestOn 12 = .ok (.ldc2_w 21, 3) := by decide +kernel
theorem dX2_digestOn_15 : decode cX2_digestOn 15 = .ok (.lmul, 1) := by decide +kernel
theorem dX2_digestOn_16 : decode cX2_digestOn 16 = .ok (.aload_n 0, 1) := by decide +kernel
theorem dX2_digestOn_17 : decode cX2_digestOn 17 = .ok (.getfield 9, 3) := by decide +kernel
theorem dX2_digestOn_20 : decode cX2_digestOn 20 = .ok (.iload 5, 2) := by decide +kernel
theorem dX2_digestOn_22 : decode cX2_digestOn 22 = .ok (.iaload, 1) := by decide +kernel
theorem dX2_digestOn_23 : decode cX2_digestOn 23 = .ok (.i2l, 1) := by decide +kernel
theorem dX2_digestOn_24 : decode cX2_digestOn 24 = .ok (.ladd, 1) := by decide +kernel
theorem dX2_digestOn_25 : decode cX2_digestOn 25 = .ok (.lstore_n 3, 1) := by decide +kernel
theorem dX2_digestOn_26 : decode cX2_digestOn 26 = .ok (.iinc 5 1, 3) := by decide +kernel
theorem dX2_digestOn_29 : decode cX2_digestOn 29 = .ok (.goto (-24), 3) := by decide +kernel
theorem dX2_digestOn_32 : decode cX2_digestOn 32 = .ok (.lload_n 3, 1) := by decide +kernel
theorem dX2_digestOn_33 : decode cX2_digestOn 33 = .ok (.lreturn, 1) := by decide +kernel
theorem dX3_init_0 : decode cX3_init 0 = .ok (.aload_n 0, 1) := by decide +kernel
theorem dX3_init_1 : decode cX3_init 1 = .ok (.invokespecial 3, 3) := by decide +kernel
theorem dX3_init_4 : decode cX3_init 4 = .ok (.aload_n 0, 1) := by decide +kernel
theorem dX3_init_5 : decode cX3_init 5 = .ok (.bipush 30, 2) := by decide +kernel
theorem dX3_init_7 : decode cX3_init 7 = .ok (.newarray .int, 2) := by decide +kernel
theorem dX3_init_9 : decode cX3_init 9 = .ok (.putfield 9, 3) := by decide +kernel
theorem dX3_init_12 : decode cX3_init 12 = .ok (.aload_n 0, 1) := by decide +kernel
theorem dX3_init_13 : decode cX3_init 13 = .ok (.bipush 10, 2) := by decide +kernel
theorem dX3_init_15 : decode cX3_init 15 = .ok (.newarray .int, 2) := by decide +kernel
theorem dX3_init_17 : decode cX3_init 17 = .ok (.putfield 15, 3) := by decide +kernel
theorem dX3_init_20 : decode cX3_init 20 = .ok (.aload_n 0, 1) := by decide +kernel
theorem dX3_init_21 : decode cX3_init 21 = .ok (.bipush 10, 2) := by decide +kernel
theorem dX3_init_23 : decode cX3_init 23 = .ok (.newarray .int, 2) := by decide +kernel
theorem dX3_init_25 : decode cX3_init 25 = .ok (.putfield 18, 3) := by decide +kernel
theorem dX3_init_28 : decode cX3_init 28 = .ok (.aload_n 0, 1) := by decide +kernel
theorem dX3_init_29 : decode cX3_init 29 = .ok (.bipush 10, 2) := by decide +kernel
theorem dX3_init_31 : decode cX3_init 31 = .ok (.newarray .int, 2) := by decide +kernel
theorem dX3_init_33 : decode cX3_init 33 = .ok (.putfield 21, 3) := by decide +kernel
theorem dX3_init_36 : decode cX3_init 36 = .ok (.return_, 1) := by decide +kernel
theorem dX3_thrown_0 : decode cX3_thrown 0 = .ok (.aload_n 0, 1) := by decide +kernel
theorem dX3_thrown_1 : decode cX3_thrown 1 = .ok (.getfield 24, 3) := by decide +kernel
theorem dX3_thrown_4 : decode cX3_thrown 4 = .ok (.ireturn, 1) := by decide +kernel
theorem dX3_clear_0 : decode cX3_clear 0 = .ok (.aload_n 0, 1) := by decide +kernel
theorem dX3_clear_1 : decode cX3_clear 1 = .ok (.iconst 0, 1) := by decide +kernel
theorem dX3_clear_2 : decode cX3_clear 2 = .ok (.putfield 24, 3) := by decide +kernel
theorem dX3_clear_5 : decode cX3_clear 5 = .ok (.iconst 0, 1) := by decide +kernel
theorem dX3_clear_6 : decode cX3_clear 6 = .ok (.istore_n 1, 1) := by decide +kernel
theorem dX3_clear_7 : decode cX3_clear 7 = .ok (.iload_n 1, 1) := by decide +kernel
theorem dX3_clear_8 : decode cX3_clear 8 = .ok (.bipush 10, 2) := by decide +kernel
theorem dX3_clear_10 : decode cX3_clear 10 = .ok (.if_icmp .ge 30, 3) := by decide +kernel
theorem dX3_clear_13 : decode cX3_clear 13 = .ok (.aload_n 0, 1) := by decide +kernel
theorem dX3_clear_14 : decode cX3_clear 14 = .ok (.getfield 15, 3) := by decide +kernel
theorem dX3_clear_17 : decode cX3_clear 17 = .ok (.iload_n 1, 1) := by decide +kernel
theorem dX3_clear_18 : decode cX3_clear 18 = .ok (.iconst 0, 1) := by decide +kernel
theorem dX3_clear_19 : decode cX3_clear 19 = .ok (.iastore, 1) := by decide +kernel
theorem dX3_clear_20 : decode cX3_clear 20 = .ok (.aload_n 0, 1) := by decide +kernel
theorem dX3_clear_21 : decode cX3_clear 21 = .ok (.getfield 18, 3) := by decide +kernel
theorem dX3_clear_24 : decode cX3_clear 24 = .ok (.iload_n 1, 1) := by decide +kernel
theorem dX3_clear_25 : decode cX3_clear 25 = .ok (.iconst 0, 1) := by decide +kernel
theorem dX3_clear_26 : decode cX3_clear 26 = .ok (.iastore, 1) := by decide +kernel
theorem dX3_clear_27 : decode cX3_clear 27 = .ok (.aload_n 0, 1) := by decide +kernel
theorem dX3_clear_28 : decode cX3_clear 28 = .ok (.getfield 21, 3) := by decide +kernel
theorem dX3_clear_31 : decode cX3_clear 31 = .ok (.iload_n 1, 1) := by decide +kernel
theorem dX3_clear_32 : decode cX3_clear 32 = .ok (.iconst 0, 1) := by decide +kernel
theorem dX3_clear_33 : decode cX3_clear 33 = .ok (.iastore, 1) := by decide +kernel
theorem dX3_clear_34 : decode cX3_clear 34 = .ok (.iinc 1 1, 3) := by decide +kernel
theorem dX3_clear_37 : decode cX3_clear 37 = .ok (.goto (-30), 3) := by decide +kernel
theorem dX3_clear_40 : decode cX3_clear 40 = .ok (.return_, 1) := by decide +kernel
theorem dX3_enter_0 : decode cX3_enter 0 = .ok (.iload_n 1, 1) := by decide +kernel
theorem dX3_enter_1 : decode cX3_enter 1 = .ok (.ifCond .lt 21, 3) := by decide +kernel
theorem dX3_enter_4 : decode cX3_enter 4 = .ok (.iload_n 1, 1) := by decide +kernel
theorem dX3_enter_5 : decode cX3_enter 5 = .ok (.bipush 10, 2) := by decide +kernel
theorem dX3_enter_7 : decode cX3_enter 7 = .ok (.if_icmp .ge 15, 3) := by decide +kernel
theorem dX3_enter_10 : decode cX3_enter 10 = .ok (.aload_n 0, 1) := by decide +kernel
theorem dX3_enter_11 : decode cX3_enter 11 = .ok (.getfield 24, 3) := by decide +kernel
theorem dX3_enter_14 : decode cX3_enter 14 = .ok (.aload_n 0, 1) := by decide +kernel
theorem dX3_enter_15 : decode cX3_enter 15 = .ok (.getfield 9, 3) := by decide +kernel
theorem dX3_enter_18 : decode cX3_enter 18 = .ok (.arraylength, 1) := by decide +kernel
theorem dX3_enter_19 : decode cX3_enter 19 = .ok (.if_icmp .lt 4, 3) := by decide +kernel
theorem dX3_enter_22 : decode cX3_enter 22 = .ok (.return_, 1) := by decide +kernel
theorem dX3_enter_23 : decode cX3_enter 23 = .ok (.aload_n 0, 1) := by decide +kernel
theorem dX3_enter_24 : decode cX3_enter 24 = .ok (.getfield 18, 3) := by decide +kernel
theorem dX3_enter_27 : decode cX3_enter 27 = .ok (.iload_n 1, 1) := by decide +kernel
theorem dX3_enter_28 : decode cX3_enter 28 = .ok (.iaload, 1) := by decide +kernel
theorem dX3_enter_29 : decode cX3_enter 29 = .ok (.ifCond .ne 13, 3) := by decide +kernel
theorem dX3_enter_32 : decode cX3_enter 32 = .ok (.aload_n 0, 1) := by decide +kernel
theorem dX3_enter_33 : decode cX3_enter 33 = .ok (.getfield 15, 3) := by decide +kernel
theorem dX3_enter_36 : decode cX3_enter 36 = .ok (.iload_n 1, 1) := by decide +kernel
theorem dX3_enter_37 : decode cX3_enter 37 = .ok (.aload_n 0, 1) := by decide +kernel
theorem dX3_enter_38 : decode cX3_enter 38 = .ok (.getfield 24, 3) := by decide +kernel
theorem dX3_enter_41 : decode cX3_enter 41 = .ok (.iastore, 1) := by decide +kernel
theorem dX3_enter_42 : decode cX3_enter 42 = .ok (.aload_n 0, 1) := by decide +kernel
theorem dX3_enter_43 : decode cX3_enter 43 = .ok (.getfield 9, 3) := by decide +kernel
theorem dX3_enter_46 : decode cX3_enter 46 = .ok (.aload_n 0, 1) := by decide +kernel
theorem dX3_enter_47 : decode cX3_enter 47 = .ok (.getfield 24, 3) := by decide +kernel
theorem dX3_enter_50 : decode cX3_enter 50 = .ok (.iload_n 2, 1) := by decide +kernel
theorem dX3_enter_51 : decode cX3_enter 51 = .ok (.iastore, 1) := by decide +kernel
theorem dX3_enter_52 : decode cX3_enter 52 = .ok (.aload_n 0, 1) := by decide +kernel
theorem dX3_enter_53 : decode cX3_enter 53 = .ok (.dup, 1) := by decide +kernel
theorem dX3_enter_54 : decode cX3_enter 54 = .ok (.getfield 24, 3) := by decide +kernel
theorem dX3_enter_57 : decode cX3_enter 57 = .ok (.iconst 1, 1) := by decide +kernel
theorem dX3_enter_58 : decode cX3_enter 58 = .ok (.iadd, 1) := by decide +kernel
theorem dX3_enter_59 : decode cX3_enter 59 = .ok (.putfield 24, 3) := by decide +kernel
theorem dX3_enter_62 : decode cX3_enter 62 = .ok (.aload_n 0, 1) := by decide +kernel
theorem dX3_enter_63 : decode cX3_enter 63 = .ok (.getfield 18, 3) := by decide +kernel
theorem dX3_enter_66 : decode cX3_enter 66 = .ok (.iload_n 1, 1) := by decide +kernel
theorem dX3_enter_67 : decode cX3_enter 67 = .ok (.dup2, 1) := by decide +kernel
theorem dX3_enter_68 : decode cX3_enter 68 = .ok (.iaload, 1) := by decide +kernel
theorem dX3_enter_69 : decode cX3_enter 69 = .ok (.iconst 1, 1) := by decide +kernel
theorem dX3_enter_70 : decode cX3_enter 70 = .ok (.iadd, 1) := by decide +kernel
theorem dX3_enter_71 : decode cX3_enter 71 = .ok (.iastore, 1) := by decide +kernel
theorem dX3_enter_72 : decode cX3_enter 72 = .ok (.iload_n 3, 1) := by decide +kernel
theorem dX3_enter_73 : decode cX3_enter 73 = .ok (.ifCond .eq 28, 3) := by decide +kernel
theorem dX3_enter_76 : decode cX3_enter 76 = .ok (.iload_n 2, 1) := by decide +kernel
theorem dX3_enter_77 : decode cX3_enter 77 = .ok (.ifCond .le 24, 3) := by decide +kernel
theorem dX3_enter_80 : decode cX3_enter 80 = .ok (.aload_n 0, 1) := by decide +kernel
theorem dX3_enter_81 : decode cX3_enter 81 = .ok (.getfield 21, 3) := by decide +kernel
theorem dX3_enter_84 : decode cX3_enter 84 = .ok (.iload_n 1, 1) := by decide +kernel
theorem dX3_enter_85 : decode cX3_enter 85 = .ok (.aload_n 0, 1) := by decide +kernel
theorem dX3_enter_86 : decode cX3_enter 86 = .ok (.getfield 18, 3) := by decide +kernel
theorem dX3_enter_89 : decode cX3_enter 89 = .ok (.iload_n 1, 1) := by decide +kernel
theorem dX3_enter_90 : decode cX3_enter 90 = .ok (.iaload, 1) := by decide +kernel
theorem dX3_enter_91 : decode cX3_enter 91 = .ok (.iconst 1, 1) := by decide +kernel
theorem dX3_enter_92 : decode cX3_enter 92 = .ok (.if_icmp .ne 7, 3) := by decide +kernel
theorem dX3_enter_95 : decode cX3_enter 95 = .ok (.iconst 2, 1) := by decide +kernel
theorem dX3_enter_96 : decode cX3_enter 96 = .ok (.goto 4, 3) := by decide +kernel
theorem dX3_enter_99 : decode cX3_enter 99 = .ok (.iconst 1, 1) := by decide +kernel
theorem dX3_enter_100 : decode cX3_enter 100 = .ok (.iastore, 1) := by decide +kernel
theorem dX3_enter_101 : decode cX3_enter 101 = .ok (.return_, 1) := by decide +kernel
theorem dX3_points_0 : decode cX3_points 0 = .ok (.aload_n 0, 1) := by decide +kernel
theorem dX3_points_1 : decode cX3_points 1 = .ok (.getfield 24, 3) := by decide +kernel
theorem dX3_points_4 : decode cX3_points 4 = .ok (.aload_n 0, 1) := by decide +kernel
theorem dX3_points_5 : decode cX3_points 5 = .ok (.getfield 15, 3) := by decide +kernel
theorem dX3_points_8 : decode cX3_points 8 = .ok (.iload_n 1, 1) := by decide +kernel
theorem dX3_points_9 : decode cX3_points 9 = .ok (.iaload, 1) := by decide +kernel
theorem dX3_points_10 : decode cX3_points 10 = .ok (.aload_n 0, 1) := by decide +kernel
theorem dX3_points_11 : decode cX3_points 11 = .ok (.getfield 18, 3) := by decide +kernel
theorem dX3_points_14 : decode cX3_points 14 = .ok (.iload_n 1, 1) := by decide +kernel
theorem dX3_points_15 : decode cX3_points 15 = .ok (.iaload, 1) := by decide +kernel
theorem dX3_points_16 : decode cX3_points 16 = .ok (.iadd, 1) := by decide +kernel
theorem dX3_points_17 : decode cX3_points 17 = .ok (.aload_n 0, 1) := by decide +kernel
theorem dX3_points_18 : decode cX3_points 18 = .ok (.getfield 21, 3) := by decide +kernel
theorem dX3_points_21 : decode cX3_points 21 = .ok (.iload_n 1, 1) := by decide +kernel
theorem dX3_points_22 : decode cX3_points 22 = .ok (.iaload, 1) := by decide +kernel
theorem dX3_points_23 : decode cX3_points 23 = .ok (.iadd, 1) := by decide +kernel
theorem dX3_points_24 : decode cX3_points 24 = .ok (.invokestatic 28, 3) := by decide +kernel
theorem dX3_points_27 : decode cX3_points 27 = .ok (.istore_n 2, 1) := by decide +kernel
theorem dX3_points_28 : decode cX3_points 28 = .ok (.iconst 0, 1) := by decide +kernel
theorem dX3_points_29 : decode cX3_points 29 = .ok (.istore_n 3, 1) := by decide +kernel
theorem dX3_points_30 : decode cX3_points 30 = .ok (.aload_n 0, 1) := by decide +kernel
theorem dX3_points_31 : decode cX3_points 31 = .ok (.getfield 15, 3) := by decide +kernel
theorem dX3_points_34 : decode cX3_points 34 = .ok (.iload_n 1, 1) := by decide +kernel
theorem dX3_points_35 : decode cX3_points 35 = .ok (.iaload, 1) := by decide +kernel
theorem dX3_points_36 : decode cX3_points 36 = .ok (.istore 4, 2) := by decide +kernel
theorem dX3_points_38 : decode cX3_points 38 = .ok (.iload 4, 2) := by decide +kernel
theorem dX3_points_40 : decode cX3_points 40 = .ok (.iload_n 2, 1) := by decide +kernel
theorem dX3_points_41 : decode cX3_points 41 = .ok (.if_icmp .ge 19, 3) := by decide +kernel
theorem dX3_points_44 : decode cX3_points 44 = .ok (.iload_n 3, 1) := by decide +kernel
theorem dX3_points_45 : decode cX3_points 45 = .ok (.aload_n 0, 1) := by decide +kernel
theorem dX3_points_46 : decode cX3_points 46 = .ok (.getfield 9, 3) := by decide +kernel
theorem dX3_points_49 : decode cX3_points 49 = .ok (.iload 4, 2) := by decide +kernel
theorem dX3_points_51 : decode cX3_points 51 = .ok (.iaload, 1) := by decide +kernel
theorem dX3_points_52 : decode cX3_points 52 = .ok (.iadd, 1) := by decide +kernel
theorem dX3_points_53 : decode cX3_points 53 = .ok (.istore_n 3, 1) := by decide +kernel
theorem dX3_points_54 : decode cX3_points 54 = .ok (.iinc 4 1, 3) := by decide +kernel
theorem dX3_points_57 : decode cX3_points 57 = .ok (.goto (-19), 3) := by decide +kernel
theorem dX3_points_60 : decode cX3_points 60 = .ok (.iload_n 3, 1) := by decide +kernel
theorem dX3_points_61 : decode cX3_points 61 = .ok (.ireturn, 1) := by decide +kernel
set_option maxRecDepth 20000 in
theorem ggX3_score_X3_points : GoodIn wsX3_score wsX3_points := goodIn_r _ [5, 6, 7, 8, 9, 10, 11, 12, 13, 14, 15, 16, 17, 18, 19] (by decide +kernel) (by decide +kernel)
set_option maxRecDepth 20000 in
theorem gX3_score_X3_points : GoodIn wsX3_score (wsV RX3 34 RX3 yX3_points wsX3_points) := goodIn_app (goodIn_of _ (by decide +kernel)) ggX3_score_X3_points
theorem dX3_score_0 : decode cX3_score 0 = .ok (.iconst 0, 1) := by decide +kernel
theorem dX3_score_1 : decode cX3_score 1 = .ok (.istore_n 1, 1) := by decide +kernel
theorem dX3_score_2 : decode cX3_score 2 = .ok (.iconst 0, 1) := by decide +kernel
theorem dX3_score_3 : decode cX3_score 3 = .ok (.istore_n 2, 1) := by decide +kernel
theorem dX3_score_4 : decode cX3_score 4 = .ok (.iload_n 2, 1) := by decide +kernel
theorem dX3_score_5 : decode cX3_score 5 = .ok (.bipush 10, 2) := by decide +kernel
theorem dX3_score_7 : decode cX3_score 7 = .ok (.if_icmp .ge 17, 3) := by decide +kernel
theorem dX3_score_10 : decode cX3_score 10 = .ok (.iload_n 1, 1) := by decide +kernel
theorem dX3_score_11 : decode cX3_score 11 = .ok (.aload_n 0, 1) := by decide +kernel
theorem dX3_score_12 : decode cX3_score 12 = .ok (.iload_n 2, 1) := by decide +kernel
theorem dX3_score_13 : decode cX3_score 13 = .ok (.invokevirtual 34, 3) := by decide +kernel
theorem dX3_score_16 : decode cX3_score 16 = .ok (.iadd, 1) := by decide +kernel
theorem dX3_score_17 : decode cX3_score 17 = .ok (.istore_n 1, 1) := by decide +kernel
theorem dX3_score_18 : decode cX3_score 18 = .ok (.iinc 2 1, 3) := by decide +kernel
theorem dX3_score_21 : decode cX3_score 21 = .ok (.goto (-17), 3) := by decide +kernel
theorem dX3_score_24 : decode cX3_score 24 = .ok (.iload_n 1, 1) := by decide +kernel
theorem dX3_score_25 : decode cX3_score 25 = .ok (.ireturn, 1) := by decide +kernel
set_option maxRecDepth 20000 in
theorem ggX3_strikes_X3_framesWithBonus : GoodIn wsX3_strikes wsX3_framesWithBonus := goodIn_r _ [5, 6, 7, 8, 9, 10, 11] (by decide +kernel) (by decide +kernel)
set_option maxRecDepth 20000 in
theorem gX3_strikes_X3_framesWithBonus : GoodIn wsX3_strikes (wsV RX3 38 RX3 yX3_framesWithBonus wsX3_framesWithBonus) := goodIn_app (goodIn_of _ (by decide +kernel)) ggX3_strikes_X3_framesWithBonus
theorem dX3_strikes_0 : decode cX3_strikes 0 = .ok (.aload_n 0, 1) := by decide +kernel
theorem dX3_strikes_1 : decode cX3_strikes 1 = .ok (.iconst 2, 1) := by decide +kernel
theorem dX3_strikes_2 : decode cX3_strikes 2 = .ok (.invokevirtual 38, 3) := by decide +kernel
theorem dX3_strikes_5 : decode cX3_strikes 5 = .ok (.ireturn, 1) := by decide +kernel
set_option maxRecDepth 20000 in
theorem ggX3_spares_X3_framesWithBonus : GoodIn wsX3_spares wsX3_framesWithBonus := goodIn_r _ [5, 6, 7, 8, 9, 10, 11] (by decide +kernel) (by decide +kernel)
set_option maxRecDepth 20000 in
theorem gX3_spares_X3_framesWithBonus : GoodIn wsX3_spares (wsV RX3 38 RX3 yX3_framesWithBonus wsX3_framesWithBonus) := goodIn_app (goodIn_of _ (by decide +kernel)) ggX3_spares_X3_framesWithBonus
theorem dX3_spares_0 : decode cX3_spares 0 = .ok (.aload_n 0, 1) := by decide +kernel
theorem dX3_spares_1 : decode cX3_spares 1 = .ok (.iconst 1, 1) := by decide +kernel
theorem dX3_spares_2 : decode cX3_spares 2 = .ok (.invokevirtual 38, 3) := by decide +kernel
theorem dX3_spares_5 : decode cX3_spares 5 = .ok (.ireturn, 1) := by decide +kernel
set_option maxRecDepth 20000 in
theorem ggX3_digestOn_X3_score : GoodIn wsX3_digestOn wsX3_score := goodIn_r _ [7, 8, 9, 10, 6, 11, 2, 12, 13, 14, 15, 16, 17, 18, 19, 32, 33, 34, 35, 36] (by decide +kernel) (by decide +kernel)
set_option maxRecDepth 20000 in
theorem gX3_digestOn_X3_score : GoodIn wsX3_digestOn (wsV RX3 43 RX3 yX3_score wsX3_score) := goodIn_app (goodIn_of _ (by decide +kernel)) ggX3_digestOn_X3_score
set_option maxRecDepth 20000 in
theorem ggX3_digestOn_X3_strikes : GoodIn wsX3_digestOn wsX3_strikes := goodIn_r _ [23, 24, 25, 26, 6, 27, 14, 32, 33, 34, 35, 36] (by decide +kernel) (by decide +kernel)
set_option maxRecDepth 20000 in
theorem gX3_digestOn_X3_strikes : GoodIn wsX3_digestOn (wsV RX3 47 RX3 yX3_strikes wsX3_strikes) := goodIn_app (goodIn_of _ (by decide +kernel)) ggX3_digestOn_X3_strikes
set_option maxRecDepth 20000 in
theorem ggX3_digestOn_X3_spares : GoodIn wsX3_digestOn wsX3_spares := goodIn_r _ [31, 24, 25, 26, 6, 27, 14, 32, 33, 34, 35, 36] (by decide +kernel) (by decide +kernel)
set_option maxRecDepth 20000 in
theorem gX3_digestOn_X3_spares : GoodIn wsX3_digestOn (wsV RX3 50 RX3 yX3_spares wsX3_spares) := goodIn_app (goodIn_of _ (by decide +kernel)) ggX3_digestOn_X3_spares
set_option maxRecDepth 20000 in
theorem ggX3_digestOn_X3_points : GoodIn wsX3_digestOn wsX3_points := goodIn_r _ [11, 2, 12, 13, 14, 15, 16, 17, 18, 19, 32, 33, 34, 35, 36] (by decide +kernel) (by decide +kernel)
set_option maxRecDepth 20000 in
theorem gX3_digestOn_X3_points : GoodIn wsX3_digestOn (wsV RX3 34 RX3 yX3_points wsX3_points) := goodIn_app (goodIn_of _ (by decide +kernel)) ggX3_digestOn_X3_points
theorem dX3_digestOn_0 : decode cX3_digestOn 0 = .ok (.lload_n 1, 1) := by decide +kernel
theorem dX3_digestOn_1 : decode cX3_digestOn 1 = .ok (.ldc2_w 41, 3) := by decide +kernel
theorem dX3_digestOn_4 : decode cX3_digestOn 4 = .ok (.lmul, 1) := by decide +kernel
theorem dX3_digestOn_5 : decode cX3_digestOn 5 = .ok (.aload_n 0, 1) := by decide +kernel
theorem dX3_digestOn_6 : decode cX3_digestOn 6 = .ok (.getfield 24, 3) := by decide +kernel
theorem dX3_digestOn_9 : decode cX3_digestOn 9 = .ok (.i2l, 1) := by decide +kernel
theorem dX3_digestOn_10 : decode cX3_digestOn 10 = .ok (.ladd, 1) := by decide +kernel
theorem dX3_digestOn_11 : decode cX3_digestOn 11 = .ok (.lstore_n 3, 1) := by decide +kernel
theorem dX3_digestOn_12 : decode cX3_digestOn 12 = .ok (.lload_n 3, 1) := by decide +kernel
theorem dX3_digestOn_13 : decode cX3_digestOn 13 = .ok (.ldc2_w 41, 3) := by decide +kernel
theorem dX3_digestOn_16 : decode cX3_digestOn 16 = .ok (.lmul, 1) := by decide +kernel
theorem dX3_digestOn_17 : decode cX3_digestOn 17 = .ok (.aload_n 0, 1) := by decide +kernel
theorem dX3_digestOn_18 : decode cX3_digestOn 18 = .ok (.invokevirtual 43, 3) := by decide +kernel
theorem dX3_digestOn_21 : decode cX3_digestOn 21 = .ok (.i2l, 1) := by decide +kernel
theorem dX3_digestOn_22 : decode cX3_digestOn 22 = .ok (.ladd, 1) := by decide +kernel
theorem dX3_digestOn_23 : decode cX3_digestOn 23 = .ok (.lstore_n 3, 1) := by decide +kernel
theorem dX3_digestOn_24 : decode cX3_digestOn 24 = .ok (.lload_n 3, 1) := by decide +kernel
theorem dX3_digestOn_25 : decode cX3_digestOn 25 = .ok (.ldc2_w 41, 3) := by decide +kernel
theorem dX3_digestOn_28 : decode cX3_digestOn 28 = .ok (.lmul, 1) := by decide +kernel
theorem dX3_digestOn_29 : decode cX3_digestOn 29 = .ok (.aload_n 0, 1) := by decide +kernel
theorem dX3_digestOn_30 : decode cX3_digestOn 30 = .ok (.invokevirtual 47, 3) := by decide +kernel
theorem dX3_digestOn_33 : decode cX3_digestOn 33 = .ok (.i2l, 1) := by decide +kernel
theorem dX3_digestOn_34 : decode cX3_digestOn 34 = .ok (.ladd, 1) := by decide +kernel
theorem dX3_digestOn_35 : decode cX3_digestOn 35 = .ok (.lstore_n 3, 1) := by decide +kernel
theorem dX3_digestOn_36 : decode cX3_digestOn 36 = .ok (.lload_n 3, 1) := by decide +kernel
theorem dX3_digestOn_37 : decode cX3_digestOn 37 = .ok (.ldc2_w 41, 3) := by decide +kernel
theorem dX3_digestOn_40 : decode cX3_digestOn 40 = .ok (.lmul, 1) := by decide +kernel
theorem dX3_digestOn_41 : decode cX3_digestOn 41 = .ok (.aload_n 0, 1) := by decide +kernel
theorem dX3_digestOn_42 : decode cX3_digestOn 42 = .ok (.invokevirtual 50, 3) := by decide +kernel
theorem dX3_digestOn_45 : decode cX3_digestOn 45 = .ok (.i2l, 1) := by decide +kernel
theorem dX3_digestOn_46 : decode cX3_digestOn 46 = .ok (.ladd, 1) := by decide +kernel
theorem dX3_digestOn_47 : decode cX3_digestOn 47 = .ok (.lstore_n 3, 1) := by decide +kernel
theorem dX3_digestOn_48 : decode cX3_digestOn 48 = .ok (.iconst 0, 1) := by decide +kernel
theorem dX3_digestOn_49 : decode cX3_digestOn 49 = .ok (.istore 5, 2) := by decide +kernel
theorem dX3_digestOn_51 : decode cX3_digestOn 51 = .ok (.iload 5, 2) := by decide +kernel
theorem dX3_digestOn_53 : decode cX3_digestOn 53 = .ok (.bipush 10, 2) := by decide +kernel
theorem dX3_digestOn_55 : decode cX3_digestOn 55 = .ok (.if_icmp .ge 23, 3) := by decide +kernel
theorem dX3_digestOn_58 : decode cX3_digestOn 58 = .ok (.lload_n 3, 1) := by decide +kernel
theorem dX3_digestOn_59 : decode cX3_digestOn 59 = .ok (.ldc2_w 41, 3) := by decide +kernel
theorem dX3_digestOn_62 : decode cX3_digestOn 62 = .ok (.lmul, 1) := by decide +kernel
theorem dX3_digestOn_63 : decode cX3_digestOn 63 = .ok (.aload_n 0, 1) := by decide +kernel
theorem dX3_digestOn_64 : decode cX3_digestOn 64 = .ok (.iload 5, 2) := by decide +kernel
theorem dX3_digestOn_66 : decode cX3_digestOn 66 = .ok (.invokevirtual 34, 3) := by decide +kernel
theorem dX3_digestOn_69 : decode cX3_digestOn 69 = .ok (.i2l, 1) := by decide +kernel
theorem dX3_digestOn_70 : decode cX3_digestOn 70 = .ok (.ladd, 1) := by decide +kernel
theorem dX3_digestOn_71 : decode cX3_digestOn 71 = .ok (.lstore_n 3, 1) := by decide +kernel
theorem dX3_digestOn_72 : decode cX3_digestOn 72 = .ok (.iinc 5 1, 3) := by decide +kernel
theorem dX3_digestOn_75 : decode cX3_digestOn 75 = .ok (.goto (-24), 3) := by decide +kernel
theorem dX3_digestOn_78 : decode cX3_digestOn 78 = .ok (.lload_n 3, 1) := by decide +kernel
theorem dX3_digestOn_79 : decode cX3_digestOn 79 = .ok (.lreturn, 1) := by decide +kernel
theorem dX3_framesWithBonus_0 : decode cX3_framesWithBonus 0 = .ok (.iconst 0, 1) := by decide +kernel
theorem dX3_framesWithBonus_1 : decode cX3_framesWithBonus 1 = .ok (.istore_n 2, 1) := by decide +kernel
theorem dX3_framesWithBonus_2 : decode cX3_framesWithBonus 2 = .ok (.iconst 0, 1) := by decide +kernel
theorem dX3_framesWithBonus_3 : decode cX3_framesWithBonus 3 = .ok (.istore_n 3, 1) := by decide +kernel
theorem dX3_framesWithBonus_4 : decode cX3_framesWithBonus 4 = .ok (.iload_n 3, 1) := by decide +kernel
theorem dX3_framesWithBonus_5 : decode cX3_framesWithBonus 5 = .ok (.bipush 10, 2) := by decide +kernel
theorem dX3_framesWithBonus_7 : decode cX3_framesWithBonus 7 = .ok (.if_icmp .ge 22, 3) := by decide +kernel
theorem dX3_framesWithBonus_10 : decode cX3_framesWithBonus 10 = .ok (.aload_n 0, 1) := by decide +kernel
theorem dX3_framesWithBonus_11 : decode cX3_framesWithBonus 11 = .ok (.getfield 21, 3) := by decide +kernel
theorem dX3_framesWithBonus_14 : decode cX3_framesWithBonus 14 = .ok (.iload_n 3, 1) := by decide +kernel
theorem dX3_framesWithBonus_15 : decode cX3_framesWithBonus 15 = .ok (.iaload, 1) := by decide +kernel
theorem dX3_framesWithBonus_16 : decode cX3_framesWithBonus 16 = .ok (.iload_n 1, 1) := by decide +kernel
theorem dX3_framesWithBonus_17 : decode cX3_framesWithBonus 17 = .ok (.if_icmp .ne 6, 3) := by decide +kernel
theorem dX3_framesWithBonus_20 : decode cX3_framesWithBonus 20 = .ok (.iinc 2 1, 3) := by decide +kernel
theorem dX3_framesWithBonus_23 : decode cX3_framesWithBonus 23 = .ok (.iinc 3 1, 3) := by decide +kernel
theorem dX3_framesWithBonus_26 : decode cX3_framesWithBonus 26 = .ok (.goto (-22), 3) := by decide +kernel
theorem dX3_framesWithBonus_29 : decode cX3_framesWithBonus 29 = .ok (.iload_n 2, 1) := by decide +kernel
theorem dX3_framesWithBonus_30 : decode cX3_framesWithBonus 30 = .ok (.ireturn, 1) := by decide +kernel
set_option maxRecDepth 20000 in
theorem ggX4_init_X0_init : GoodIn wsX4_init wsX0_init := goodIn_r _ [17, 18, 2, 3, 19, 20, 21, 22, 34, 35, 36] (by decide +kernel) (by decide +kernel)
set_option maxRecDepth 20000 in
theorem gX4_init_X0_init_n9 : GoodIn wsX4_init (wsX0_init) := ggX4_init_X0_init
set_option maxRecDepth 20000 in
theorem ggX4_init_X2_init : GoodIn wsX4_init wsX2_init := goodIn_r _ [24, 25, 2, 3, 19, 26, 44] (by decide +kernel) (by decide +kernel)
set_option maxRecDepth 20000 in
theorem gX4_init_X2_init_n18 : GoodIn wsX4_init (wsX2_init) := ggX4_init_X2_init
set_option maxRecDepth 20000 in
theorem ggX4_init_X3_init : GoodIn wsX4_init wsX3_init := goodIn_r _ [28, 29, 2, 3, 19, 30, 31, 32, 33, 45, 46, 47, 48, 49] (by decide +kernel) (by decide +kernel)
set_option maxRecDepth 20000 in
theorem gX4_init_X3_init_n29 : GoodIn wsX4_init (wsX3_init) := ggX4_init_X3_init
theorem dX4_init_0 : decode cX4_init 0 = .ok (.aload_n 0, 1) := by decide +kernel
theorem dX4_init_1 : decode cX4_init 1 = .ok (.invokespecial 1, 3) := by decide +kernel
theorem dX4_init_4 : decode cX4_init 4 = .ok (.aload_n 0, 1) := by decide +kernel
theorem dX4_init_5 : decode cX4_init 5 = .ok (.new 7, 3) := by decide +kernel
theorem dX4_init_8 : decode cX4_init 8 = .ok (.dup, 1) := by decide +kernel
theorem dX4_init_9 : decode cX4_init 9 = .ok (.invokespecial 9, 3) := by decide +kernel
theorem dX4_init_12 : decode cX4_init 12 = .ok (.putfield 10, 3) := by decide +kernel
theorem dX4_init_15 : decode cX4_init 15 = .ok (.aload_n 0, 1) := by decide +kernel
theorem dX4_init_16 : decode cX4_init 16 = .ok (.new 16, 3) := by decide +kernel
theorem dX4_init_19 : decode cX4_init 19 = .ok (.dup, 1) := by decide +kernel
theorem dX4_init_20 : decode cX4_init 20 = .ok (.invokespecial 18, 3) := by decide +kernel
theorem dX4_init_23 : decode cX4_init 23 = .ok (.putfield 19, 3) := by decide +kernel
theorem dX4_init_26 : decode cX4_init 26 = .ok (.aload_n 0, 1) := by decide +kernel
theorem dX4_init_27 : decode cX4_init 27 = .ok (.iconst 4, 1) := by decide +kernel
theorem dX4_init_28 : decode cX4_init 28 = .ok (.anewarray 23, 3) := by decide +kernel
theorem dX4_init_31 : decode cX4_init 31 = .ok (.putfield 25, 3) := by decide +kernel
theorem dX4_init_34 : decode cX4_init 34 = .ok (.iconst 0, 1) := by decide +kernel
theorem dX4_init_35 : decode cX4_init 35 = .ok (.istore_n 1, 1) := by decide +kernel
theorem dX4_init_36 : decode cX4_init 36 = .ok (.iload_n 1, 1) := by decide +kernel
theorem dX4_init_37 : decode cX4_init 37 = .ok (.aload_n 0, 1) := by decide +kernel
theorem dX4_init_38 : decode cX4_init 38 = .ok (.getfield 25, 3) := by decide +kernel
theorem dX4_init_41 : decode cX4_init 41 = .ok (.arraylength, 1) := by decide +kernel
theorem dX4_init_42 : decode cX4_init 42 = .ok (.if_icmp .ge 22, 3) := by decide +kernel
theorem dX4_init_45 : decode cX4_init 45 = .ok (.aload_n 0, 1) := by decide +kernel
theorem dX4_init_46 : decode cX4_init 46 = .ok (.getfield 25, 3) := by decide +kernel
theorem dX4_init_49 : decode cX4_init 49 = .ok (.iload_n 1, 1) := by decide +kernel
theorem dX4_init_50 : decode cX4_init 50 = .ok (.new 23, 3) := by decide +kernel
theorem dX4_init_53 : decode cX4_init 53 = .ok (.dup, 1) := by decide +kernel
theorem dX4_init_54 : decode cX4_init 54 = .ok (.invokespecial 29, 3) := by decide +kernel
theorem dX4_init_57 : decode cX4_init 57 = .ok (.aastore, 1) := by decide +kernel
theorem dX4_init_58 : decode cX4_init 58 = .ok (.iinc 1 1, 3) := by decide +kernel
theorem dX4_init_61 : decode cX4_init 61 = .ok (.goto (-25), 3) := by decide +kernel
theorem dX4_init_64 : decode cX4_init 64 = .ok (.return_, 1) := by decide +kernel
set_option maxRecDepth 20000 in
theorem ggX4_addPlayer_X4_somethingThrown : GoodIn wsX4_addPlayer wsX4_somethingThrown := goodIn_r _ [8, 9, 10, 11, 12, 13, 14, 15, 16, 17, 18, 19, 20, 21, 22, 23, 24, 25, 26, 27] (by decide +kernel) (by decide +kernel)
set_option maxRecDepth 20000 in
theorem gX4_addPlayer_X4_somethingThrown : GoodIn wsX4_addPlayer (wsV RX4 34 RX4 yX4_somethingThrown wsX4_somethingThrown) := goodIn_app (goodIn_of _ (by decide +kernel)) ggX4_addPlayer_X4_somethingThrown
theorem dX4_addPlayer_0 : decode cX4_addPlayer 0 = .ok (.aload_n 0, 1) := by decide +kernel
theorem dX4_addPlayer_1 : decode cX4_addPlayer 1 = .ok (.getfield 30, 3) := by decide +kernel
theorem dX4_addPlayer_4 : decode cX4_addPlayer 4 = .ok (.iconst 4, 1) := by decide +kernel
theorem dX4_addPlayer_5 : decode cX4_addPlayer 5 = .ok (.if_icmp .ge 10, 3) := by decide +kernel
theorem dX4_addPlayer_8 : decode cX4_addPlayer 8 = .ok (.aload_n 0, 1) := by decide +kernel
theorem dX4_addPlayer_9 : decode cX4_addPlayer 9 = .ok (.invokevirtual 34, 3) := by decide +kernel
theorem dX4_addPlayer_12 : decode cX4_addPlayer 12 = .ok (.ifCond .eq 13, 3) := by decide +kernel
theorem dX4_addPlayer_15 : decode cX4_addPlayer 15 = .ok (.new 38, 3) := by decide +kernel
theorem dX4_addPlayer_18 : decode cX4_addPlayer 18 = .ok (.dup, 1) := by decide +kernel
theorem dX4_addPlayer_19 : decode cX4_addPlayer 19 = .ok (.ldc 40, 2) := by decide +kernel
theorem dX4_addPlayer_21 : decode cX4_addPlayer 21 = .ok (.invokespecial 42, 3) := by decide +kernel
theorem dX4_addPlayer_24 : decode cX4_addPlayer 24 = .ok (.athrow, 1) := by decide +kernel
theorem dX4_addPlayer_25 : decode cX4_addPlayer 25 = .ok (.aload_n 0, 1) := by decide +kernel
theorem dX4_addPlayer_26 : decode cX4_addPlayer 26 = .ok (.getfield 30, 3) := by decide +kernel
theorem dX4_addPlayer_29 : decode cX4_addPlayer 29 = .ok (.istore_n 1, 1) := by decide +kernel
theorem dX4_addPlayer_30 : decode cX4_addPlayer 30 = .ok (.aload_n 0, 1) := by decide +kernel
theorem dX4_addPlayer_31 : decode cX4_addPlayer 31 = .ok (.dup, 1) := by decide +kernel
theorem dX4_addPlayer_32 : decode cX4_addPlayer 32 = .ok (.getfield 30, 3) := by decide +kernel
theorem dX4_addPlayer_35 : decode cX4_addPlayer 35 = .ok (.iconst 1, 1) := by decide +kernel
theorem dX4_addPlayer_36 : decode cX4_addPlayer 36 = .ok (.iadd, 1) := by decide +kernel
theorem dX4_addPlayer_37 : decode cX4_addPlayer 37 = .ok (.putfield 30, 3) := by decide +kernel
theorem dX4_addPlayer_40 : decode cX4_addPlayer 40 = .ok (.iload_n 1, 1) := by decide +kernel
theorem dX4_addPlayer_41 : decode cX4_addPlayer 41 = .ok (.ireturn, 1) := by decide +kernel
set_option maxRecDepth 20000 in
theorem ggX4_throwBall_X4_checkThrow : GoodIn wsX4_throwBall wsX4_checkThrow := goodIn_ca (goodIn_r _ [11, 12, 13, 10, 14, 15, 16, 17, 18, 19] (by decide +kernel) (by decide +kernel)) (goodIn_sub (fun _ h => List.mem_cons_of_mem _ (List.mem_append_right _ h)) (by decide +kernel))
set_option maxRecDepth 20000 in
theorem gX4_throwBall_X4_checkThrow : GoodIn wsX4_throwBall (va_wsS RX4 45 yX4_checkThrow wsX4_checkThrow) := goodIn_app (goodIn_of _ (by decide +kernel)) ggX4_throwBall_X4_checkThrow
set_option maxRecDepth 20000 in
theorem ggX4_throwBall_X4_playerInTurn : GoodIn wsX4_throwBall wsX4_playerInTurn := goodIn_r _ [23, 24, 25, 26, 27, 28, 10, 29, 6, 99, 100, 101, 102, 103, 104, 105] (by decide +kernel) (by decide +kernel)
set_option maxRecDepth 20000 in
theorem gX4_throwBall_X4_playerInTurn : GoodIn wsX4_throwBall (wsV RX4 49 RX4 yX4_playerInTurn wsX4_playerInTurn) := goodIn_app (goodIn_of _ (by decide +kernel)) ggX4_throwBall_X4_playerInTurn
set_option maxRecDepth 20000 in
theorem ggX4_throwBall_X2_throwsAway : GoodIn wsX4_throwBall wsX2_throwsAway := goodIn_r _ [34, 35, 106] (by decide +kernel) (by decide +kernel)
set_option maxRecDepth 20000 in
theorem gX4_throwBall_X2_throwsAway : GoodIn wsX4_throwBall (wsV RX4 53 RX2 yX2_throwsAway wsX2_throwsAway) := goodIn_app (goodIn_of _ (by decide +kernel)) ggX4_throwBall_X2_throwsAway
set_option maxRecDepth 20000 in
theorem ggX4_throwBall_X0_roll : GoodIn wsX4_throwBall wsX0_roll := goodIn_r _ [40, 41, 42, 43, 44, 45, 46, 47, 48, 49, 50, 51, 52, 53, 54, 55, 56, 57, 58, 59, 60, 61, 62, 63, 64, 107, 108, 109] (by decide +kernel) (by decide +kernel)
set_option maxRecDepth 20000 in
theorem gX4_throwBall_X0_roll : GoodIn wsX4_throwBall (wsV RX4 59 RX0 yX0_roll wsX0_roll) := goodIn_app (goodIn_of _ (by decide +kernel)) ggX4_throwBall_X0_roll
set_option maxRecDepth 20000 in
theorem ggX4_throwBall_X2_send : GoodIn wsX4_throwBall wsX2_send := goodIn_r _ [68, 35, 69, 70, 71, 72, 106] (by decide +kernel) (by decide +kernel)
set_option maxRecDepth 20000 in
theorem gX4_throwBall_X2_send : GoodIn wsX4_throwBall (wsV RX4 63 RX2 yX2_send wsX2_send) := goodIn_app (goodIn_of _ (by decide +kernel)) ggX4_throwBall_X2_send
set_option maxRecDepth 20000 in
theorem ggX4_throwBall_X0_standingPins : GoodIn wsX4_throwBall wsX0_standingPins := goodIn_r _ [76, 41, 107, 108, 109] (by decide +kernel) (by decide +kernel)
set_option maxRecDepth 20000 in
theorem gX4_throwBall_X0_standingPins : GoodIn wsX4_throwBall (wsV RX4 67 RX0 yX0_standingPins wsX0_standingPins) := goodIn_app (goodIn_of _ (by decide +kernel)) ggX4_throwBall_X0_standingPins
set_option maxRecDepth 20000 in
theorem ggX4_throwBall_X3_enter : GoodIn wsX4_throwBall wsX3_enter := goodIn_r _ [81, 82, 83, 84, 85, 86, 110, 111, 112, 113, 114] (by decide +kernel) (by decide +kernel)
set_option maxRecDepth 20000 in
theorem gX4_throwBall_X3_enter : GoodIn wsX4_throwBall (wsV RX4 73 RX3 yX3_enter wsX3_enter) := goodIn_app (goodIn_of _ (by decide +kernel)) ggX4_throwBall_X3_enter
set_option maxRecDepth 20000 in
theorem ggX4_throwBall_X4_endFrame : GoodIn wsX4_throwBall wsX4_endFrame := goodIn_r _ [90, 7, 25, 24, 6, 4, 26, 27, 28, 10, 29, 91, 92, 93, 39, 94, 41, 95, 96, 97, 98, 42, 99, 100, 101, 102, 103, 104, 105, 107, 108, 109] (by decide +kernel) (by decide +kernel)
set_option maxRecDepth 20000 in
theorem gX4_throwBall_X4_endFrame : GoodIn wsX4_throwBall (wsV RX4 80 RX4 yX4_endFrame wsX4_endFrame) := goodIn_app (goodIn_of _ (by decide +kernel)) ggX4_throwBall_X4_endFrame
theorem dX4_throwBall_0 : decode cX4_throwBall 0 = .ok (.iload_n 1, 1) := by decide +kernel
theorem dX4_throwBall_1 : decode cX4_throwBall 1 = .ok (.iload_n 2, 1) := by decide +kernel
theorem dX4_throwBall_2 : decode cX4_throwBall 2 = .ok (.invokestatic 45, 3) := by decide +kernel
theorem dX4_throwBall_5 : decode cX4_throwBall 5 = .ok (.aload_n 0, 1) := by decide +kernel
theorem dX4_throwBall_6 : decode cX4_throwBall 6 = .ok (.invokevirtual 49, 3) := by decide +kernel
theorem dX4_throwBall_9 : decode cX4_throwBall 9 = .ok (.istore_n 3, 1) := by decide +kernel
theorem dX4_throwBall_10 : decode cX4_throwBall 10 = .ok (.iload_n 3, 1) := by decide +kernel
theorem dX4_throwBall_11 : decode cX4_throwBall 11 = .ok (.iconst (-1), 1) := by decide +kernel
theorem dX4_throwBall_12 : decode cX4_throwBall 12 = .ok (.if_icmp .eq 14, 3) := by decide +kernel
theorem dX4_throwBall_15 : decode cX4_throwBall 15 = .ok (.aload_n 0, 1) := by decide +kernel
theorem dX4_throwBall_16 : decode cX4_throwBall 16 = .ok (.getfield 19, 3) := by decide +kernel
theorem dX4_throwBall_19 : decode cX4_throwBall 19 = .ok (.iload_n 1, 1) := by decide +kernel
theorem dX4_throwBall_20 : decode cX4_throwBall 20 = .ok (.invokevirtual 53, 3) := by decide +kernel
theorem dX4_throwBall_23 : decode cX4_throwBall 23 = .ok (.ifCond .le 13, 3) := by decide +kernel
theorem dX4_throwBall_26 : decode cX4_throwBall 26 = .ok (.new 38, 3) := by decide +kernel
theorem dX4_throwBall_29 : decode cX4_throwBall 29 = .ok (.dup, 1) := by decide +kernel
theorem dX4_throwBall_30 : decode cX4_throwBall 30 = .ok (.ldc 57, 2) := by decide +kernel
theorem dX4_throwBall_32 : decode cX4_throwBall 32 = .ok (.invokespecial 42, 3) := by decide +kernel
theorem dX4_throwBall_35 : decode cX4_throwBall 35 = .ok (.athrow, 1) := by decide +kernel
theorem dX4_throwBall_36 : decode cX4_throwBall 36 = .ok (.aload_n 0, 1) := by decide +kernel
theorem dX4_throwBall_37 : decode cX4_throwBall 37 = .ok (.getfield 10, 3) := by decide +kernel
theorem dX4_throwBall_40 : decode cX4_throwBall 40 = .ok (.iload_n 1, 1) := by decide +kernel
theorem dX4_throwBall_41 : decode cX4_throwBall 41 = .ok (.iload_n 2, 1) := by decide +kernel
theorem dX4_throwBall_42 : decode cX4_throwBall 42 = .ok (.invokevirtual 59, 3) := by decide +kernel
theorem dX4_throwBall_45 : decode cX4_throwBall 45 = .ok (.istore 4, 2) := by decide +kernel
theorem dX4_throwBall_47 : decode cX4_throwBall 47 = .ok (.aload_n 0, 1) := by decide +kernel
theorem dX4_throwBall_48 : decode cX4_throwBall 48 = .ok (.getfield 19, 3) := by decide +kernel
theorem dX4_throwBall_51 : decode cX4_throwBall 51 = .ok (.iload_n 1, 1) := by decide +kernel
theorem dX4_throwBall_52 : decode cX4_throwBall 52 = .ok (.invokevirtual 63, 3) := by decide +kernel
theorem dX4_throwBall_55 : decode cX4_throwBall 55 = .ok (.aload_n 0, 1) := by decide +kernel
theorem dX4_throwBall_56 : decode cX4_throwBall 56 = .ok (.getfield 10, 3) := by decide +kernel
theorem dX4_throwBall_59 : decode cX4_throwBall 59 = .ok (.invokevirtual 67, 3) := by decide +kernel
theorem dX4_throwBall_62 : decode cX4_throwBall 62 = .ok (.ifCond .ne 7, 3) := by decide +kernel
theorem dX4_throwBall_65 : decode cX4_throwBall 65 = .ok (.iconst 1, 1) := by decide +kernel
theorem dX4_throwBall_66 : decode cX4_throwBall 66 = .ok (.goto 4, 3) := by decide +kernel
theorem dX4_throwBall_69 : decode cX4_throwBall 69 = .ok (.iconst 0, 1) := by decide +kernel
theorem dX4_throwBall_70 : decode cX4_throwBall 70 = .ok (.istore 5, 2) := by decide +kernel
theorem dX4_throwBall_72 : decode cX4_throwBall 72 = .ok (.aload_n 0, 1) := by decide +kernel
theorem dX4_throwBall_73 : decode cX4_throwBall 73 = .ok (.getfield 25, 3) := by decide +kernel
theorem dX4_throwBall_76 : decode cX4_throwBall 76 = .ok (.iload_n 3, 1) := by decide +kernel
theorem dX4_throwBall_77 : decode cX4_throwBall 77 = .ok (.aaload, 1) := by decide +kernel
theorem dX4_throwBall_78 : decode cX4_throwBall 78 = .ok (.aload_n 0, 1) := by decide +kernel
theorem dX4_throwBall_79 : decode cX4_throwBall 79 = .ok (.getfield 70, 3) := by decide +kernel
theorem dX4_throwBall_82 : decode cX4_throwBall 82 = .ok (.iload 4, 2) := by decide +kernel
theorem dX4_throwBall_84 : decode cX4_throwBall 84 = .ok (.iload 5, 2) := by decide +kernel
theorem dX4_throwBall_86 : decode cX4_throwBall 86 = .ok (.invokevirtual 73, 3) := by decide +kernel
theorem dX4_throwBall_89 : decode cX4_throwBall 89 = .ok (.aload_n 0, 1) := by decide +kernel
theorem dX4_throwBall_90 : decode cX4_throwBall 90 = .ok (.dup, 1) := by decide +kernel
theorem dX4_throwBall_91 : decode cX4_throwBall 91 = .ok (.getfield 77, 3) := by decide +kernel
theorem dX4_throwBall_94 : decode cX4_throwBall 94 = .ok (.iconst 1, 1) := by decide +kernel
theorem dX4_throwBall_95 : decode cX4_throwBall 95 = .ok (.iadd, 1) := by decide +kernel
theorem dX4_throwBall_96 : decode cX4_throwBall 96 = .ok (.putfield 77, 3) := by decide +kernel
theorem dX4_throwBall_99 : decode cX4_throwBall 99 = .ok (.iload 5, 2) := by decide +kernel
theorem dX4_throwBall_101 : decode cX4_throwBall 101 = .ok (.ifCond .ne 11, 3) := by decide +kernel
theorem dX4_throwBall_104 : decode cX4_throwBall 104 = .ok (.aload_n 0, 1) := by decide +kernel
theorem dX4_throwBall_105 : decode cX4_throwBall 105 = .ok (.getfield 77, 3) := by decide +kernel
theorem dX4_throwBall_108 : decode cX4_throwBall 108 = .ok (.iconst 3, 1) := by decide +kernel
theorem dX4_throwBall_109 : decode cX4_throwBall 109 = .ok (.if_icmp .lt 7, 3) := by decide +kernel
theorem dX4_throwBall_112 : decode cX4_throwBall 112 = .ok (.aload_n 0, 1) := by decide +kernel
theorem dX4_throwBall_113 : decode cX4_throwBall 113 = .ok (.invokevirtual 80, 3) := by decide +kernel
theorem dX4_throwBall_116 : decode cX4_throwBall 116 = .ok (.iload 4, 2) := by decide +kernel
