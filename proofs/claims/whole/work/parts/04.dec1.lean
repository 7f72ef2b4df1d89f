theorem dX6_forgetValues_8 : decode cX6_forgetValues 8 = .ok (.aload_n 0, 1) := by decide +kernel
theorem dX6_forgetValues_9 : decode cX6_forgetValues 9 = .ok (.getfield 42, 3) := by decide +kernel
theorem dX6_forgetValues_12 : decode cX6_forgetValues 12 = .ok (.if_icmp .ge 16, 3) := by decide +kernel
theorem dX6_forgetValues_15 : decode cX6_forgetValues 15 = .ok (.aload_n 0, 1) := by decide +kernel
theorem dX6_forgetValues_16 : decode cX6_forgetValues 16 = .ok (.getfield 24, 3) := by decide +kernel
theorem dX6_forgetValues_19 : decode cX6_forgetValues 19 = .ok (.iload_n 1, 1) := by decide +kernel
theorem dX6_forgetValues_20 : decode cX6_forgetValues 20 = .ok (.iconst (-1), 1) := by decide +kernel
theorem dX6_forgetValues_21 : decode cX6_forgetValues 21 = .ok (.iastore, 1) := by decide +kernel
theorem dX6_forgetValues_22 : decode cX6_forgetValues 22 = .ok (.iinc 1 1, 3) := by decide +kernel
theorem dX6_forgetValues_25 : decode cX6_forgetValues 25 = .ok (.goto (-18), 3) := by decide +kernel
theorem dX6_forgetValues_28 : decode cX6_forgetValues 28 = .ok (.return_, 1) := by decide +kernel
theorem dX6_hold_0 : decode cX6_hold 0 = .ok (.aload_n 0, 1) := by decide +kernel
theorem dX6_hold_1 : decode cX6_hold 1 = .ok (.getfield 24, 3) := by decide +kernel
theorem dX6_hold_4 : decode cX6_hold 4 = .ok (.iload_n 1, 1) := by decide +kernel
theorem dX6_hold_5 : decode cX6_hold 5 = .ok (.iload_n 2, 1) := by decide +kernel
theorem dX6_hold_6 : decode cX6_hold 6 = .ok (.iastore, 1) := by decide +kernel
theorem dX6_hold_7 : decode cX6_hold 7 = .ok (.iload_n 2, 1) := by decide +kernel
theorem dX6_hold_8 : decode cX6_hold 8 = .ok (.iconst (-1), 1) := by decide +kernel
theorem dX6_hold_9 : decode cX6_hold 9 = .ok (.if_icmp .ne 20, 3) := by decide +kernel
theorem dX6_hold_12 : decode cX6_hold 12 = .ok (.aload_n 0, 1) := by decide +kernel
theorem dX6_hold_13 : decode cX6_hold 13 = .ok (.dup, 1) := by decide +kernel
theorem dX6_hold_14 : decode cX6_hold 14 = .ok (.getfield 63, 3) := by decide +kernel
theorem dX6_hold_17 : decode cX6_hold 17 = .ok (.iconst 1, 1) := by decide +kernel
theorem dX6_hold_18 : decode cX6_hold 18 = .ok (.iload_n 1, 1) := by decide +kernel
theorem dX6_hold_19 : decode cX6_hold 19 = .ok (.ishl, 1) := by decide +kernel
theorem dX6_hold_20 : decode cX6_hold 20 = .ok (.iconst (-1), 1) := by decide +kernel
theorem dX6_hold_21 : decode cX6_hold 21 = .ok (.ixor, 1) := by decide +kernel
theorem dX6_hold_22 : decode cX6_hold 22 = .ok (.iand, 1) := by decide +kernel
theorem dX6_hold_23 : decode cX6_hold 23 = .ok (.putfield 63, 3) := by decide +kernel
theorem dX6_hold_26 : decode cX6_hold 26 = .ok (.goto 15, 3) := by decide +kernel
theorem dX6_hold_29 : decode cX6_hold 29 = .ok (.aload_n 0, 1) := by decide +kernel
theorem dX6_hold_30 : decode cX6_hold 30 = .ok (.dup, 1) := by decide +kernel
theorem dX6_hold_31 : decode cX6_hold 31 = .ok (.getfield 63, 3) := by decide +kernel
theorem dX6_hold_34 : decode cX6_hold 34 = .ok (.iconst 1, 1) := by decide +kernel
theorem dX6_hold_35 : decode cX6_hold 35 = .ok (.iload_n 1, 1) := by decide +kernel
theorem dX6_hold_36 : decode cX6_hold 36 = .ok (.ishl, 1) := by decide +kernel
theorem dX6_hold_37 : decode cX6_hold 37 = .ok (.ior, 1) := by decide +kernel
theorem dX6_hold_38 : decode cX6_hold 38 = .ok (.putfield 63, 3) := by decide +kernel
theorem dX6_hold_41 : decode cX6_hold 41 = .ok (.return_, 1) := by decide +kernel
theorem dX7_init_0 : decode cX7_init 0 = .ok (.aload_n 0, 1) := by decide +kernel
theorem dX7_init_1 : decode cX7_init 1 = .ok (.invokespecial 3, 3) := by decide +kernel
theorem dX7_init_4 : decode cX7_init 4 = .ok (.aload_n 0, 1) := by decide +kernel
theorem dX7_init_5 : decode cX7_init 5 = .ok (.bipush 90, 2) := by decide +kernel
theorem dX7_init_7 : decode cX7_init 7 = .ok (.newarray .int, 2) := by decide +kernel
theorem dX7_init_9 : decode cX7_init 9 = .ok (.putfield 9, 3) := by decide +kernel
theorem dX7_init_12 : decode cX7_init 12 = .ok (.aload_n 0, 1) := by decide +kernel
theorem dX7_init_13 : decode cX7_init 13 = .ok (.iconst 1, 1) := by decide +kernel
theorem dX7_init_14 : decode cX7_init 14 = .ok (.putfield 15, 3) := by decide +kernel
theorem dX7_init_17 : decode cX7_init 17 = .ok (.return_, 1) := by decide +kernel
theorem dX7_renew_0 : decode cX7_renew 0 = .ok (.aload_n 0, 1) := by decide +kernel
theorem dX7_renew_1 : decode cX7_renew 1 = .ok (.iconst 0, 1) := by decide +kernel
theorem dX7_renew_2 : decode cX7_renew 2 = .ok (.putfield 15, 3) := by decide +kernel
theorem dX7_renew_5 : decode cX7_renew 5 = .ok (.aload_n 0, 1) := by decide +kernel
theorem dX7_renew_6 : decode cX7_renew 6 = .ok (.iload_n 1, 1) := by decide +kernel
theorem dX7_renew_7 : decode cX7_renew 7 = .ok (.putfield 19, 3) := by decide +kernel
theorem dX7_renew_10 : decode cX7_renew 10 = .ok (.aload_n 0, 1) := by decide +kernel
theorem dX7_renew_11 : decode cX7_renew 11 = .ok (.iload_n 2, 1) := by decide +kernel
theorem dX7_renew_12 : decode cX7_renew 12 = .ok (.putfield 23, 3) := by decide +kernel
theorem dX7_renew_15 : decode cX7_renew 15 = .ok (.iconst 0, 1) := by decide +kernel
theorem dX7_renew_16 : decode cX7_renew 16 = .ok (.istore_n 3, 1) := by decide +kernel
theorem dX7_renew_17 : decode cX7_renew 17 = .ok (.iload_n 3, 1) := by decide +kernel
theorem dX7_renew_18 : decode cX7_renew 18 = .ok (.bipush 90, 2) := by decide +kernel
theorem dX7_renew_20 : decode cX7_renew 20 = .ok (.if_icmp .ge 16, 3) := by decide +kernel
theorem dX7_renew_23 : decode cX7_renew 23 = .ok (.aload_n 0, 1) := by decide +kernel
theorem dX7_renew_24 : decode cX7_renew 24 = .ok (.getfield 9, 3) := by decide +kernel
theorem dX7_renew_27 : decode cX7_renew 27 = .ok (.iload_n 3, 1) := by decide +kernel
theorem dX7_renew_28 : decode cX7_renew 28 = .ok (.iconst 0, 1) := by decide +kernel
theorem dX7_renew_29 : decode cX7_renew 29 = .ok (.iastore, 1) := by decide +kernel
theorem dX7_renew_30 : decode cX7_renew 30 = .ok (.iinc 3 1, 3) := by decide +kernel
theorem dX7_renew_33 : decode cX7_renew 33 = .ok (.goto (-16), 3) := by decide +kernel
theorem dX7_renew_36 : decode cX7_renew 36 = .ok (.return_, 1) := by decide +kernel
theorem dX7_findingAt_0 : decode cX7_findingAt 0 = .ok (.aload_n 0, 1) := by decide +kernel
theorem dX7_findingAt_1 : decode cX7_findingAt 1 = .ok (.getfield 15, 3) := by decide +kernel
theorem dX7_findingAt_4 : decode cX7_findingAt 4 = .ok (.ifCond .eq 5, 3) := by decide +kernel
theorem dX7_findingAt_7 : decode cX7_findingAt 7 = .ok (.iconst 1, 1) := by decide +kernel
theorem dX7_findingAt_8 : decode cX7_findingAt 8 = .ok (.ireturn, 1) := by decide +kernel
theorem dX7_findingAt_9 : decode cX7_findingAt 9 = .ok (.aload_n 0, 1) := by decide +kernel
theorem dX7_findingAt_10 : decode cX7_findingAt 10 = .ok (.getfield 19, 3) := by decide +kernel
theorem dX7_findingAt_13 : decode cX7_findingAt 13 = .ok (.iload_n 1, 1) := by decide +kernel
theorem dX7_findingAt_14 : decode cX7_findingAt 14 = .ok (.if_icmp .eq 5, 3) := by decide +kernel
theorem dX7_findingAt_17 : decode cX7_findingAt 17 = .ok (.iconst 3, 1) := by decide +kernel
theorem dX7_findingAt_18 : decode cX7_findingAt 18 = .ok (.ireturn, 1) := by decide +kernel
theorem dX7_findingAt_19 : decode cX7_findingAt 19 = .ok (.iload_n 2, 1) := by decide +kernel
theorem dX7_findingAt_20 : decode cX7_findingAt 20 = .ok (.iconst 0, 1) := by decide +kernel
theorem dX7_findingAt_21 : decode cX7_findingAt 21 = .ok (.aload_n 0, 1) := by decide +kernel
theorem dX7_findingAt_22 : decode cX7_findingAt 22 = .ok (.getfield 23, 3) := by decide +kernel
theorem dX7_findingAt_25 : decode cX7_findingAt 25 = .ok (.iconst 1, 1) := by decide +kernel
theorem dX7_findingAt_26 : decode cX7_findingAt 26 = .ok (.isub, 1) := by decide +kernel
theorem dX7_findingAt_27 : decode cX7_findingAt 27 = .ok (.invokestatic 26, 3) := by decide +kernel
theorem dX7_findingAt_30 : decode cX7_findingAt 30 = .ok (.ifCond .eq 7, 3) := by decide +kernel
theorem dX7_findingAt_33 : decode cX7_findingAt 33 = .ok (.iconst 0, 1) := by decide +kernel
theorem dX7_findingAt_34 : decode cX7_findingAt 34 = .ok (.goto 4, 3) := by decide +kernel
theorem dX7_findingAt_37 : decode cX7_findingAt 37 = .ok (.iconst 2, 1) := by decide +kernel
theorem dX7_findingAt_38 : decode cX7_findingAt 38 = .ok (.ireturn, 1) := by decide +kernel
theorem dX7_reaches_0 : decode cX7_reaches 0 = .ok (.iload_n 1, 1) := by decide +kernel
theorem dX7_reaches_1 : decode cX7_reaches 1 = .ok (.ifCond .lt 29, 3) := by decide +kernel
theorem dX7_reaches_4 : decode cX7_reaches 4 = .ok (.iload_n 2, 1) := by decide +kernel
theorem dX7_reaches_5 : decode cX7_reaches 5 = .ok (.ifCond .lt 25, 3) := by decide +kernel
theorem dX7_reaches_8 : decode cX7_reaches 8 = .ok (.iload_n 1, 1) := by decide +kernel
theorem dX7_reaches_9 : decode cX7_reaches 9 = .ok (.aload_n 0, 1) := by decide +kernel
theorem dX7_reaches_10 : decode cX7_reaches 10 = .ok (.getfield 23, 3) := by decide +kernel
theorem dX7_reaches_13 : decode cX7_reaches 13 = .ok (.if_icmp .gt 17, 3) := by decide +kernel
theorem dX7_reaches_16 : decode cX7_reaches 16 = .ok (.iload_n 2, 1) := by decide +kernel
theorem dX7_reaches_17 : decode cX7_reaches 17 = .ok (.aload_n 0, 1) := by decide +kernel
theorem dX7_reaches_18 : decode cX7_reaches 18 = .ok (.getfield 23, 3) := by decide +kernel
theorem dX7_reaches_21 : decode cX7_reaches 21 = .ok (.iload_n 1, 1) := by decide +kernel
theorem dX7_reaches_22 : decode cX7_reaches 22 = .ok (.isub, 1) := by decide +kernel
theorem dX7_reaches_23 : decode cX7_reaches 23 = .ok (.if_icmp .gt 7, 3) := by decide +kernel
theorem dX7_reaches_26 : decode cX7_reaches 26 = .ok (.iconst 1, 1) := by decide +kernel
theorem dX7_reaches_27 : decode cX7_reaches 27 = .ok (.goto 4, 3) := by decide +kernel
theorem dX7_reaches_30 : decode cX7_reaches 30 = .ok (.iconst 0, 1) := by decide +kernel
theorem dX7_reaches_31 : decode cX7_reaches 31 = .ok (.ireturn, 1) := by decide +kernel
theorem dX7_store_0 : decode cX7_store 0 = .ok (.aload_n 0, 1) := by decide +kernel
theorem dX7_store_1 : decode cX7_store 1 = .ok (.getfield 19, 3) := by decide +kernel
theorem dX7_store_4 : decode cX7_store 4 = .ok (.ifCond .ne 14, 3) := by decide +kernel
theorem dX7_store_7 : decode cX7_store 7 = .ok (.aload_n 0, 1) := by decide +kernel
theorem dX7_store_8 : decode cX7_store 8 = .ok (.getfield 9, 3) := by decide +kernel
theorem dX7_store_11 : decode cX7_store 11 = .ok (.iload_n 1, 1) := by decide +kernel
theorem dX7_store_12 : decode cX7_store 12 = .ok (.iload_n 2, 1) := by decide +kernel
theorem dX7_store_13 : decode cX7_store 13 = .ok (.i2b, 1) := by decide +kernel
theorem dX7_store_14 : decode cX7_store 14 = .ok (.iastore, 1) := by decide +kernel
theorem dX7_store_15 : decode cX7_store 15 = .ok (.goto 29, 3) := by decide +kernel
theorem dX7_store_18 : decode cX7_store 18 = .ok (.aload_n 0, 1) := by decide +kernel
theorem dX7_store_19 : decode cX7_store 19 = .ok (.getfield 19, 3) := by decide +kernel
theorem dX7_store_22 : decode cX7_store 22 = .ok (.iconst 1, 1) := by decide +kernel
theorem dX7_store_23 : decode cX7_store 23 = .ok (.if_icmp .ne 14, 3) := by decide +kernel
theorem dX7_store_26 : decode cX7_store 26 = .ok (.aload_n 0, 1) := by decide +kernel
theorem dX7_store_27 : decode cX7_store 27 = .ok (.getfield 9, 3) := by decide +kernel
theorem dX7_store_30 : decode cX7_store 30 = .ok (.iload_n 1, 1) := by decide +kernel
theorem dX7_store_31 : decode cX7_store 31 = .ok (.iload_n 2, 1) := by decide +kernel
theorem dX7_store_32 : decode cX7_store 32 = .ok (.i2s, 1) := by decide +kernel
theorem dX7_store_33 : decode cX7_store 33 = .ok (.iastore, 1) := by decide +kernel
theorem dX7_store_34 : decode cX7_store 34 = .ok (.goto 10, 3) := by decide +kernel
theorem dX7_store_37 : decode cX7_store 37 = .ok (.aload_n 0, 1) := by decide +kernel
theorem dX7_store_38 : decode cX7_store 38 = .ok (.getfield 9, 3) := by decide +kernel
theorem dX7_store_41 : decode cX7_store 41 = .ok (.iload_n 1, 1) := by decide +kernel
theorem dX7_store_42 : decode cX7_store 42 = .ok (.iload_n 2, 1) := by decide +kernel
theorem dX7_store_43 : decode cX7_store 43 = .ok (.iastore, 1) := by decide +kernel
theorem dX7_store_44 : decode cX7_store 44 = .ok (.return_, 1) := by decide +kernel
theorem dX8_init_0 : decode cX8_init 0 = .ok (.aload_n 0, 1) := by decide +kernel
theorem dX8_init_1 : decode cX8_init 1 = .ok (.aload_n 1, 1) := by decide +kernel
theorem dX8_init_2 : decode cX8_init 2 = .ok (.aload_n 2, 1) := by decide +kernel
theorem dX8_init_3 : decode cX8_init 3 = .ok (.invokespecial 3, 3) := by decide +kernel
theorem dX8_init_6 : decode cX8_init 6 = .ok (.aload_n 0, 1) := by decide +kernel
theorem dX8_init_7 : decode cX8_init 7 = .ok (.bipush 9, 2) := by decide +kernel
theorem dX8_init_9 : decode cX8_init 9 = .ok (.newarray .long, 2) := by decide +kernel
theorem dX8_init_11 : decode cX8_init 11 = .ok (.putfield 9, 3) := by decide +kernel
theorem dX8_init_14 : decode cX8_init 14 = .ok (.return_, 1) := by decide +kernel
theorem dX8_clusters_0 : decode cX8_clusters 0 = .ok (.aload_n 0, 1) := by decide +kernel
theorem dX8_clusters_1 : decode cX8_clusters 1 = .ok (.getfield 15, 3) := by decide +kernel
theorem dX8_clusters_4 : decode cX8_clusters 4 = .ok (.getfield 19, 3) := by decide +kernel
theorem dX8_clusters_7 : decode cX8_clusters 7 = .ok (.invokestatic 25, 3) := by decide +kernel
theorem dX8_clusters_10 : decode cX8_clusters 10 = .ok (.ireturn, 1) := by decide +kernel
theorem dX8_sizeOf_0 : decode cX8_sizeOf 0 = .ok (.aload_n 0, 1) := by decide +kernel
theorem dX8_sizeOf_1 : decode cX8_sizeOf 1 = .ok (.getfield 15, 3) := by decide +kernel
theorem dX8_sizeOf_4 : decode cX8_sizeOf 4 = .ok (.getfield 31, 3) := by decide +kernel
theorem dX8_sizeOf_7 : decode cX8_sizeOf 7 = .ok (.iload_n 1, 1) := by decide +kernel
theorem dX8_sizeOf_8 : decode cX8_sizeOf 8 = .ok (.iaload, 1) := by decide +kernel
theorem dX8_sizeOf_9 : decode cX8_sizeOf 9 = .ok (.invokestatic 25, 3) := by decide +kernel
theorem dX8_sizeOf_12 : decode cX8_sizeOf 12 = .ok (.ireturn, 1) := by decide +kernel
theorem dX8_takenOf_0 : decode cX8_takenOf 0 = .ok (.aload_n 0, 1) := by decide +kernel
theorem dX8_takenOf_1 : decode cX8_takenOf 1 = .ok (.getfield 35, 3) := by decide +kernel
theorem dX8_takenOf_4 : decode cX8_takenOf 4 = .ok (.iconst 1, 1) := by decide +kernel
theorem dX8_takenOf_5 : decode cX8_takenOf 5 = .ok (.iaload, 1) := by decide +kernel
theorem dX8_takenOf_6 : decode cX8_takenOf 6 = .ok (.aload_n 0, 1) := by decide +kernel
theorem dX8_takenOf_7 : decode cX8_takenOf 7 = .ok (.iload_n 1, 1) := by decide +kernel
theorem dX8_takenOf_8 : decode cX8_takenOf 8 = .ok (.invokevirtual 38, 3) := by decide +kernel
theorem dX8_takenOf_11 : decode cX8_takenOf 11 = .ok (.invokestatic 41, 3) := by decide +kernel
theorem dX8_takenOf_14 : decode cX8_takenOf 14 = .ok (.ireturn, 1) := by decide +kernel
theorem dX8_canBe_0 : decode cX8_canBe 0 = .ok (.aload_n 0, 1) := by decide +kernel
theorem dX8_canBe_1 : decode cX8_canBe 1 = .ok (.getfield 35, 3) := by decide +kernel
theorem dX8_canBe_4 : decode cX8_canBe 4 = .ok (.iconst 0, 1) := by decide +kernel
theorem dX8_canBe_5 : decode cX8_canBe 5 = .ok (.iaload, 1) := by decide +kernel
theorem dX8_canBe_6 : decode cX8_canBe 6 = .ok (.iconst 1, 1) := by decide +kernel
theorem dX8_canBe_7 : decode cX8_canBe 7 = .ok (.aload_n 0, 1) := by decide +kernel
theorem dX8_canBe_8 : decode cX8_canBe 8 = .ok (.invokevirtual 47, 3) := by decide +kernel
theorem dX8_canBe_11 : decode cX8_canBe 11 = .ok (.invokestatic 51, 3) := by decide +kernel
theorem dX8_canBe_14 : decode cX8_canBe 14 = .ok (.ifCond .eq 17, 3) := by decide +kernel
theorem dX8_canBe_17 : decode cX8_canBe 17 = .ok (.aload_n 0, 1) := by decide +kernel
theorem dX8_canBe_18 : decode cX8_canBe 18 = .ok (.getfield 35, 3) := by decide +kernel
theorem dX8_canBe_21 : decode cX8_canBe 21 = .ok (.iconst 1, 1) := by decide +kernel
theorem dX8_canBe_22 : decode cX8_canBe 22 = .ok (.iaload, 1) := by decide +kernel
theorem dX8_canBe_23 : decode cX8_canBe 23 = .ok (.iconst 1, 1) := by decide +kernel
theorem dX8_canBe_24 : decode cX8_canBe 24 = .ok (.if_icmp .lt 7, 3) := by decide +kernel
theorem dX8_canBe_27 : decode cX8_canBe 27 = .ok (.iconst 1, 1) := by decide +kernel
theorem dX8_canBe_28 : decode cX8_canBe 28 = .ok (.goto 4, 3) := by decide +kernel
theorem dX8_canBe_31 : decode cX8_canBe 31 = .ok (.iconst 0, 1) := by decide +kernel
theorem dX8_canBe_32 : decode cX8_canBe 32 = .ok (.ireturn, 1) := by decide +kernel
theorem dX8_countWays_0 : decode cX8_countWays 0 = .ok (.aload_n 0, 1) := by decide +kernel
theorem dX8_countWays_1 : decode cX8_countWays 1 = .ok (.getfield 9, 3) := by decide +kernel
theorem dX8_countWays_4 : decode cX8_countWays 4 = .ok (.iconst 0, 1) := by decide +kernel
theorem dX8_countWays_5 : decode cX8_countWays 5 = .ok (.lconst 1, 1) := by decide +kernel
theorem dX8_countWays_6 : decode cX8_countWays 6 = .ok (.lastore, 1) := by decide +kernel
theorem dX8_countWays_7 : decode cX8_countWays 7 = .ok (.iconst 1, 1) := by decide +kernel
theorem dX8_countWays_8 : decode cX8_countWays 8 = .ok (.istore_n 1, 1) := by decide +kernel
theorem dX8_countWays_9 : decode cX8_countWays 9 = .ok (.iload_n 1, 1) := by decide +kernel
theorem dX8_countWays_10 : decode cX8_countWays 10 = .ok (.bipush 8, 2) := by decide +kernel
theorem dX8_countWays_12 : decode cX8_countWays 12 = .ok (.if_icmp .gt 16, 3) := by decide +kernel
theorem dX8_countWays_15 : decode cX8_countWays 15 = .ok (.aload_n 0, 1) := by decide +kernel
theorem dX8_countWays_16 : decode cX8_countWays 16 = .ok (.getfield 9, 3) := by decide +kernel
theorem dX8_countWays_19 : decode cX8_countWays 19 = .ok (.iload_n 1, 1) := by decide +kernel
theorem dX8_countWays_20 : decode cX8_countWays 20 = .ok (.lconst 0, 1) := by decide +kernel
theorem dX8_countWays_21 : decode cX8_countWays 21 = .ok (.lastore, 1) := by decide +kernel
theorem dX8_countWays_22 : decode cX8_countWays 22 = .ok (.iinc 1 1, 3) := by decide +kernel
theorem dX8_countWays_25 : decode cX8_countWays 25 = .ok (.goto (-16), 3) := by decide +kernel
theorem dX8_countWays_28 : decode cX8_countWays 28 = .ok (.iconst 0, 1) := by decide +kernel
theorem dX8_countWays_29 : decode cX8_countWays 29 = .ok (.istore_n 1, 1) := by decide +kernel
theorem dX8_countWays_30 : decode cX8_countWays 30 = .ok (.iload_n 1, 1) := by decide +kernel
theorem dX8_countWays_31 : decode cX8_countWays 31 = .ok (.bipush 8, 2) := by decide +kernel
theorem dX8_countWays_33 : decode cX8_countWays 33 = .ok (.if_icmp .ge 71, 3) := by decide +kernel
theorem dX8_countWays_36 : decode cX8_countWays 36 = .ok (.aload_n 0, 1) := by decide +kernel
theorem dX8_countWays_37 : decode cX8_countWays 37 = .ok (.iload_n 1, 1) := by decide +kernel
theorem dX8_countWays_38 : decode cX8_countWays 38 = .ok (.invokevirtual 38, 3) := by decide +kernel
theorem dX8_countWays_41 : decode cX8_countWays 41 = .ok (.ifCond .ne 6, 3) := by decide +kernel
theorem dX8_countWays_44 : decode cX8_countWays 44 = .ok (.goto 54, 3) := by decide +kernel
theorem dX8_countWays_47 : decode cX8_countWays 47 = .ok (.aload_n 0, 1) := by decide +kernel
theorem dX8_countWays_48 : decode cX8_countWays 48 = .ok (.iload_n 1, 1) := by decide +kernel
theorem dX8_countWays_49 : decode cX8_countWays 49 = .ok (.invokevirtual 55, 3) := by decide +kernel
theorem dX8_countWays_52 : decode cX8_countWays 52 = .ok (.aload_n 0, 1) := by decide +kernel
theorem dX8_countWays_53 : decode cX8_countWays 53 = .ok (.iload_n 1, 1) := by decide +kernel
theorem dX8_countWays_54 : decode cX8_countWays 54 = .ok (.invokevirtual 38, 3) := by decide +kernel
theorem dX8_countWays_57 : decode cX8_countWays 57 = .ok (.invokestatic 58, 3) := by decide +kernel
theorem dX8_countWays_60 : decode cX8_countWays 60 = .ok (.lstore_n 2, 1) := by decide +kernel
theorem dX8_countWays_61 : decode cX8_countWays 61 = .ok (.bipush 8, 2) := by decide +kernel
theorem dX8_countWays_63 : decode cX8_countWays 63 = .ok (.istore 4, 2) := by decide +kernel
theorem dX8_countWays_65 : decode cX8_countWays 65 = .ok (.iload 4, 2) := by decide +kernel
theorem dX8_countWays_67 : decode cX8_countWays 67 = .ok (.iconst 1, 1) := by decide +kernel
theorem dX8_countWays_68 : decode cX8_countWays 68 = .ok (.if_icmp .lt 30, 3) := by decide +kernel
theorem dX8_countWays_71 : decode cX8_countWays 71 = .ok (.aload_n 0, 1) := by decide +kernel
theorem dX8_countWays_72 : decode cX8_countWays 72 = .ok (.getfield 9, 3) := by decide +kernel
theorem dX8_countWays_75 : decode cX8_countWays 75 = .ok (.iload 4, 2) := by decide +kernel
theorem dX8_countWays_77 : decode cX8_countWays 77 = .ok (.dup2, 1) := by decide +kernel
theorem dX8_countWays_78 : decode cX8_countWays 78 = .ok (.laload, 1) := by decide +kernel
theorem dX8_countWays_79 : decode cX8_countWays 79 = .ok (.lload_n 2, 1) := by decide +kernel
theorem dX8_countWays_80 : decode cX8_countWays 80 = .ok (.aload_n 0, 1) := by decide +kernel
theorem dX8_countWays_81 : decode cX8_countWays 81 = .ok (.getfield 9, 3) := by decide +kernel
theorem dX8_countWays_84 : decode cX8_countWays 84 = .ok (.iload 4, 2) := by decide +kernel
theorem dX8_countWays_86 : decode cX8_countWays 86 = .ok (.iconst 1, 1) := by decide +kernel
theorem dX8_countWays_87 : decode cX8_countWays 87 = .ok (.isub, 1) := by decide +kernel
theorem dX8_countWays_88 : decode cX8_countWays 88 = .ok (.laload, 1) := by decide +kernel
theorem dX8_countWays_89 : decode cX8_countWays 89 = .ok (.lmul, 1) := by decide +kernel
theorem dX8_countWays_90 : decode cX8_countWays 90 = .ok (.ladd, 1) := by decide +kernel
theorem dX8_countWays_91 : decode cX8_countWays 91 = .ok (.lastore, 1) := by decide +kernel
theorem dX8_countWays_92 : decode cX8_countWays 92 = .ok (.iinc 4 (-1), 3) := by decide +kernel
theorem dX8_countWays_95 : decode cX8_countWays 95 = .ok (.goto (-30), 3) := by decide +kernel
theorem dX8_countWays_98 : decode cX8_countWays 98 = .ok (.iinc 1 1, 3) := by decide +kernel
theorem dX8_countWays_101 : decode cX8_countWays 101 = .ok (.goto (-71), 3) := by decide +kernel
theorem dX8_countWays_104 : decode cX8_countWays 104 = .ok (.aload_n 0, 1) := by decide +kernel
theorem dX8_countWays_105 : decode cX8_countWays 105 = .ok (.getfield 35, 3) := by decide +kernel
theorem dX8_countWays_108 : decode cX8_countWays 108 = .ok (.iconst 0, 1) := by decide +kernel
theorem dX8_countWays_109 : decode cX8_countWays 109 = .ok (.iaload, 1) := by decide +kernel
theorem dX8_countWays_110 : decode cX8_countWays 110 = .ok (.iconst 0, 1) := by decide +kernel
theorem dX8_countWays_111 : decode cX8_countWays 111 = .ok (.bipush 8, 2) := by decide +kernel
theorem dX8_countWays_113 : decode cX8_countWays 113 = .ok (.invokestatic 51, 3) := by decide +kernel
theorem dX8_countWays_116 : decode cX8_countWays 116 = .ok (.ifCond .eq 17, 3) := by decide +kernel
theorem dX8_countWays_119 : decode cX8_countWays 119 = .ok (.aload_n 0, 1) := by decide +kernel
theorem dX8_countWays_120 : decode cX8_countWays 120 = .ok (.getfield 9, 3) := by decide +kernel
theorem dX8_countWays_123 : decode cX8_countWays 123 = .ok (.aload_n 0, 1) := by decide +kernel
theorem dX8_countWays_124 : decode cX8_countWays 124 = .ok (.getfield 35, 3) := by decide +kernel
theorem dX8_countWays_127 : decode cX8_countWays 127 = .ok (.iconst 0, 1) := by decide +kernel
theorem dX8_countWays_128 : decode cX8_countWays 128 = .ok (.iaload, 1) := by decide +kernel
theorem dX8_countWays_129 : decode cX8_countWays 129 = .ok (.laload, 1) := by decide +kernel
theorem dX8_countWays_130 : decode cX8_countWays 130 = .ok (.goto 4, 3) := by decide +kernel
theorem dX8_countWays_133 : decode cX8_countWays 133 = .ok (.lconst 0, 1) := by decide +kernel
theorem dX8_countWays_134 : decode cX8_countWays 134 = .ok (.lreturn, 1) := by decide +kernel
theorem dX8_shareOfOne_0 : decode cX8_shareOfOne 0 = .ok (.aload_n 0, 1) := by decide +kernel
theorem dX8_shareOfOne_1 : decode cX8_shareOfOne 1 = .ok (.getfield 15, 3) := by decide +kernel
theorem dX8_shareOfOne_4 : decode cX8_shareOfOne 4 = .ok (.getfield 62, 3) := by decide +kernel
theorem dX8_shareOfOne_7 : decode cX8_shareOfOne 7 = .ok (.iload_n 1, 1) := by decide +kernel
theorem dX8_shareOfOne_8 : decode cX8_shareOfOne 8 = .ok (.iaload, 1) := by decide +kernel
theorem dX8_shareOfOne_9 : decode cX8_shareOfOne 9 = .ok (.istore_n 3, 1) := by decide +kernel
theorem dX8_shareOfOne_10 : decode cX8_shareOfOne 10 = .ok (.aload_n 2, 1) := by decide +kernel
theorem dX8_shareOfOne_11 : decode cX8_shareOfOne 11 = .ok (.aload_n 0, 1) := by decide +kernel
theorem dX8_shareOfOne_12 : decode cX8_shareOfOne 12 = .ok (.getfield 35, 3) := by decide +kernel
theorem dX8_shareOfOne_15 : decode cX8_shareOfOne 15 = .ok (.iconst 0, 1) := by decide +kernel
theorem dX8_shareOfOne_16 : decode cX8_shareOfOne 16 = .ok (.iaload, 1) := by decide +kernel
theorem dX8_shareOfOne_17 : decode cX8_shareOfOne 17 = .ok (.i2l, 1) := by decide +kernel
theorem dX8_shareOfOne_18 : decode cX8_shareOfOne 18 = .ok (.aload_n 0, 1) := by decide +kernel
theorem dX8_shareOfOne_19 : decode cX8_shareOfOne 19 = .ok (.iload_n 3, 1) := by decide +kernel
theorem dX8_shareOfOne_20 : decode cX8_shareOfOne 20 = .ok (.invokevirtual 55, 3) := by decide +kernel
theorem dX8_shareOfOne_23 : decode cX8_shareOfOne 23 = .ok (.i2l, 1) := by decide +kernel
theorem dX8_shareOfOne_24 : decode cX8_shareOfOne 24 = .ok (.lmul, 1) := by decide +kernel
theorem dX8_shareOfOne_25 : decode cX8_shareOfOne 25 = .ok (.aload_n 0, 1) := by decide +kernel
theorem dX8_shareOfOne_26 : decode cX8_shareOfOne 26 = .ok (.invokevirtual 47, 3) := by decide +kernel
theorem dX8_shareOfOne_29 : decode cX8_shareOfOne 29 = .ok (.i2l, 1) := by decide +kernel
theorem dX8_shareOfOne_30 : decode cX8_shareOfOne 30 = .ok (.aload_n 0, 1) := by decide +kernel
theorem dX8_shareOfOne_31 : decode cX8_shareOfOne 31 = .ok (.iload_n 3, 1) := by decide +kernel
theorem dX8_shareOfOne_32 : decode cX8_shareOfOne 32 = .ok (.invokevirtual 38, 3) := by decide +kernel
theorem dX8_shareOfOne_35 : decode cX8_shareOfOne 35 = .ok (.i2l, 1) := by decide +kernel
theorem dX8_shareOfOne_36 : decode cX8_shareOfOne 36 = .ok (.lmul, 1) := by decide +kernel
theorem dX8_shareOfOne_37 : decode cX8_shareOfOne 37 = .ok (.invokevirtual 65, 3) := by decide +kernel
theorem dX8_shareOfOne_40 : decode cX8_shareOfOne 40 = .ok (.return_, 1) := by decide +kernel
theorem dX8_shareOfTwo_0 : decode cX8_shareOfTwo 0 = .ok (.aload_n 0, 1) := by decide +kernel
theorem dX8_shareOfTwo_1 : decode cX8_shareOfTwo 1 = .ok (.getfield 15, 3) := by decide +kernel
theorem dX8_shareOfTwo_4 : decode cX8_shareOfTwo 4 = .ok (.getfield 62, 3) := by decide +kernel
theorem dX8_shareOfTwo_7 : decode cX8_shareOfTwo 7 = .ok (.iload_n 1, 1) := by decide +kernel
theorem dX8_shareOfTwo_8 : decode cX8_shareOfTwo 8 = .ok (.iaload, 1) := by decide +kernel
theorem dX8_shareOfTwo_9 : decode cX8_shareOfTwo 9 = .ok (.istore 4, 2) := by decide +kernel
theorem dX8_shareOfTwo_11 : decode cX8_shareOfTwo 11 = .ok (.aload_n 0, 1) := by decide +kernel
theorem dX8_shareOfTwo_12 : decode cX8_shareOfTwo 12 = .ok (.getfield 15, 3) := by decide +kernel
theorem dX8_shareOfTwo_15 : decode cX8_shareOfTwo 15 = .ok (.getfield 62, 3) := by decide +kernel
theorem dX8_shareOfTwo_18 : decode cX8_shareOfTwo 18 = .ok (.iload_n 2, 1) := by decide +kernel
theorem dX8_shareOfTwo_19 : decode cX8_shareOfTwo 19 = .ok (.iaload, 1) := by decide +kernel
theorem dX8_shareOfTwo_20 : decode cX8_shareOfTwo 20 = .ok (.istore 5, 2) := by decide +kernel
theorem dX8_shareOfTwo_22 : decode cX8_shareOfTwo 22 = .ok (.aload_n 0, 1) := by decide +kernel
theorem dX8_shareOfTwo_23 : decode cX8_shareOfTwo 23 = .ok (.getfield 35, 3) := by decide +kernel
theorem dX8_shareOfTwo_26 : decode cX8_shareOfTwo 26 = .ok (.iconst 0, 1) := by decide +kernel
theorem dX8_shareOfTwo_27 : decode cX8_shareOfTwo 27 = .ok (.iaload, 1) := by decide +kernel
theorem dX8_shareOfTwo_28 : decode cX8_shareOfTwo 28 = .ok (.i2l, 1) := by decide +kernel
theorem dX8_shareOfTwo_29 : decode cX8_shareOfTwo 29 = .ok (.aload_n 0, 1) := by decide +kernel
theorem dX8_shareOfTwo_30 : decode cX8_shareOfTwo 30 = .ok (.iload 4, 2) := by decide +kernel
theorem dX8_shareOfTwo_32 : decode cX8_shareOfTwo 32 = .ok (.invokevirtual 55, 3) := by decide +kernel
theorem dX8_shareOfTwo_35 : decode cX8_shareOfTwo 35 = .ok (.i2l, 1) := by decide +kernel
theorem dX8_shareOfTwo_36 : decode cX8_shareOfTwo 36 = .ok (.lmul, 1) := by decide +kernel
theorem dX8_shareOfTwo_37 : decode cX8_shareOfTwo 37 = .ok (.lstore 6, 2) := by decide +kernel
theorem dX8_shareOfTwo_39 : decode cX8_shareOfTwo 39 = .ok (.aload_n 0, 1) := by decide +kernel
theorem dX8_shareOfTwo_40 : decode cX8_shareOfTwo 40 = .ok (.invokevirtual 47, 3) := by decide +kernel
theorem dX8_shareOfTwo_43 : decode cX8_shareOfTwo 43 = .ok (.i2l, 1) := by decide +kernel
theorem dX8_shareOfTwo_44 : decode cX8_shareOfTwo 44 = .ok (.aload_n 0, 1) := by decide +kernel
theorem dX8_shareOfTwo_45 : decode cX8_shareOfTwo 45 = .ok (.iload 4, 2) := by decide +kernel
theorem dX8_shareOfTwo_47 : decode cX8_shareOfTwo 47 = .ok (.invokevirtual 38, 3) := by decide +kernel
theorem dX8_shareOfTwo_50 : decode cX8_shareOfTwo 50 = .ok (.i2l, 1) := by decide +kernel
theorem dX8_shareOfTwo_51 : decode cX8_shareOfTwo 51 = .ok (.lmul, 1) := by decide +kernel
theorem dX8_shareOfTwo_52 : decode cX8_shareOfTwo 52 = .ok (.lstore 8, 2) := by decide +kernel
theorem dX8_shareOfTwo_54 : decode cX8_shareOfTwo 54 = .ok (.iload 4, 2) := by decide +kernel
theorem dX8_shareOfTwo_56 : decode cX8_shareOfTwo 56 = .ok (.iload 5, 2) := by decide +kernel
theorem dX8_shareOfTwo_58 : decode cX8_shareOfTwo 58 = .ok (.if_icmp .ne 32, 3) := by decide +kernel
theorem dX8_shareOfTwo_61 : decode cX8_shareOfTwo 61 = .ok (.aload_n 3, 1) := by decide +kernel
theorem dX8_shareOfTwo_62 : decode cX8_shareOfTwo 62 = .ok (.lload 6, 2) := by decide +kernel
theorem dX8_shareOfTwo_64 : decode cX8_shareOfTwo 64 = .ok (.aload_n 0, 1) := by decide +kernel
theorem dX8_shareOfTwo_65 : decode cX8_shareOfTwo 65 = .ok (.iload 4, 2) := by decide +kernel
theorem dX8_shareOfTwo_67 : decode cX8_shareOfTwo 67 = .ok (.invokevirtual 55, 3) := by decide +kernel
theorem dX8_shareOfTwo_70 : decode cX8_shareOfTwo 70 = .ok (.iconst 1, 1) := by decide +kernel
theorem dX8_shareOfTwo_71 : decode cX8_shareOfTwo 71 = .ok (.isub, 1) := by decide +kernel
theorem dX8_shareOfTwo_72 : decode cX8_shareOfTwo 72 = .ok (.i2l, 1) := by decide +kernel
theorem dX8_shareOfTwo_73 : decode cX8_shareOfTwo 73 = .ok (.lmul, 1) := by decide +kernel
theorem dX8_shareOfTwo_74 : decode cX8_shareOfTwo 74 = .ok (.lload 8, 2) := by decide +kernel
theorem dX8_shareOfTwo_76 : decode cX8_shareOfTwo 76 = .ok (.aload_n 0, 1) := by decide +kernel
theorem dX8_shareOfTwo_77 : decode cX8_shareOfTwo 77 = .ok (.iload 4, 2) := by decide +kernel
theorem dX8_shareOfTwo_79 : decode cX8_shareOfTwo 79 = .ok (.invokevirtual 38, 3) := by decide +kernel
theorem dX8_shareOfTwo_82 : decode cX8_shareOfTwo 82 = .ok (.iconst 1, 1) := by decide +kernel
theorem dX8_shareOfTwo_83 : decode cX8_shareOfTwo 83 = .ok (.isub, 1) := by decide +kernel
theorem dX8_shareOfTwo_84 : decode cX8_shareOfTwo 84 = .ok (.i2l, 1) := by decide +kernel
theorem dX8_shareOfTwo_85 : decode cX8_shareOfTwo 85 = .ok (.lmul, 1) := by decide +kernel
theorem dX8_shareOfTwo_86 : decode cX8_shareOfTwo 86 = .ok (.invokevirtual 65, 3) := by decide +kernel
theorem dX8_shareOfTwo_89 : decode cX8_shareOfTwo 89 = .ok (.return_, 1) := by decide +kernel
theorem dX8_shareOfTwo_90 : decode cX8_shareOfTwo 90 = .ok (.lload 6, 2) := by decide +kernel
theorem dX8_shareOfTwo_92 : decode cX8_shareOfTwo 92 = .ok (.aload_n 0, 1) := by decide +kernel
theorem dX8_shareOfTwo_93 : decode cX8_shareOfTwo 93 = .ok (.getfield 35, 3) := by decide +kernel
theorem dX8_shareOfTwo_96 : decode cX8_shareOfTwo 96 = .ok (.iconst 0, 1) := by decide +kernel
theorem dX8_shareOfTwo_97 : decode cX8_shareOfTwo 97 = .ok (.iaload, 1) := by decide +kernel
theorem dX8_shareOfTwo_98 : decode cX8_shareOfTwo 98 = .ok (.iconst 1, 1) := by decide +kernel
theorem dX8_shareOfTwo_99 : decode cX8_shareOfTwo 99 = .ok (.isub, 1) := by decide +kernel
theorem dX8_shareOfTwo_100 : decode cX8_shareOfTwo 100 = .ok (.i2l, 1) := by decide +kernel
theorem dX8_shareOfTwo_101 : decode cX8_shareOfTwo 101 = .ok (.aload_n 0, 1) := by decide +kernel
theorem dX8_shareOfTwo_102 : decode cX8_shareOfTwo 102 = .ok (.iload 5, 2) := by decide +kernel
theorem dX8_shareOfTwo_104 : decode cX8_shareOfTwo 104 = .ok (.invokevirtual 55, 3) := by decide +kernel
theorem dX8_shareOfTwo_107 : decode cX8_shareOfTwo 107 = .ok (.i2l, 1) := by decide +kernel
theorem dX8_shareOfTwo_108 : decode cX8_shareOfTwo 108 = .ok (.lmul, 1) := by decide +kernel
theorem dX8_shareOfTwo_109 : decode cX8_shareOfTwo 109 = .ok (.lmul, 1) := by decide +kernel
theorem dX8_shareOfTwo_110 : decode cX8_shareOfTwo 110 = .ok (.lstore 6, 2) := by decide +kernel
theorem dX8_shareOfTwo_112 : decode cX8_shareOfTwo 112 = .ok (.lload 8, 2) := by decide +kernel
theorem dX8_shareOfTwo_114 : decode cX8_shareOfTwo 114 = .ok (.aload_n 0, 1) := by decide +kernel
theorem dX8_shareOfTwo_115 : decode cX8_shareOfTwo 115 = .ok (.invokevirtual 47, 3) := by decide +kernel
theorem dX8_shareOfTwo_118 : decode cX8_shareOfTwo 118 = .ok (.iconst 1, 1) := by decide +kernel
theorem dX8_shareOfTwo_119 : decode cX8_shareOfTwo 119 = .ok (.isub, 1) := by decide +kernel
theorem dX8_shareOfTwo_120 : decode cX8_shareOfTwo 120 = .ok (.i2l, 1) := by decide +kernel
theorem dX8_shareOfTwo_121 : decode cX8_shareOfTwo 121 = .ok (.aload_n 0, 1) := by decide +kernel
theorem dX8_shareOfTwo_122 : decode cX8_shareOfTwo 122 = .ok (.iload 5, 2) := by decide +kernel
theorem dX8_shareOfTwo_124 : decode cX8_shareOfTwo 124 = .ok (.invokevirtual 38, 3) := by decide +kernel
theorem dX8_shareOfTwo_127 : decode cX8_shareOfTwo 127 = .ok (.i2l, 1) := by decide +kernel
theorem dX8_shareOfTwo_128 : decode cX8_shareOfTwo 128 = .ok (.lmul, 1) := by decide +kernel
theorem dX8_shareOfTwo_129 : decode cX8_shareOfTwo 129 = .ok (.lmul, 1) := by decide +kernel
theorem dX8_shareOfTwo_130 : decode cX8_shareOfTwo 130 = .ok (.lstore 8, 2) := by decide +kernel
theorem dX8_shareOfTwo_132 : decode cX8_shareOfTwo 132 = .ok (.aload_n 3, 1) := by decide +kernel
theorem dX8_shareOfTwo_133 : decode cX8_shareOfTwo 133 = .ok (.lload 6, 2) := by decide +kernel
theorem dX8_shareOfTwo_135 : decode cX8_shareOfTwo 135 = .ok (.lload 8, 2) := by decide +kernel
theorem dX8_shareOfTwo_137 : decode cX8_shareOfTwo 137 = .ok (.invokevirtual 65, 3) := by decide +kernel
theorem dX8_shareOfTwo_140 : decode cX8_shareOfTwo 140 = .ok (.return_, 1) := by decide +kernel
theorem dX8_fewest_0 : decode cX8_fewest 0 = .ok (.iconst 0, 1) := by decide +kernel
theorem dX8_fewest_1 : decode cX8_fewest 1 = .ok (.istore_n 1, 1) := by decide +kernel
theorem dX8_fewest_2 : decode cX8_fewest 2 = .ok (.aload_n 0, 1) := by decide +kernel
theorem dX8_fewest_3 : decode cX8_fewest 3 = .ok (.getfield 35, 3) := by decide +kernel
theorem dX8_fewest_6 : decode cX8_fewest 6 = .ok (.iconst 0, 1) := by decide +kernel
theorem dX8_fewest_7 : decode cX8_fewest 7 = .ok (.iaload, 1) := by decide +kernel
theorem dX8_fewest_8 : decode cX8_fewest 8 = .ok (.istore_n 2, 1) := by decide +kernel
theorem dX8_fewest_9 : decode cX8_fewest 9 = .ok (.iconst 1, 1) := by decide +kernel
theorem dX8_fewest_10 : decode cX8_fewest 10 = .ok (.istore_n 3, 1) := by decide +kernel
theorem dX8_fewest_11 : decode cX8_fewest 11 = .ok (.iload_n 3, 1) := by decide +kernel
theorem dX8_fewest_12 : decode cX8_fewest 12 = .ok (.bipush 30, 2) := by decide +kernel
theorem dX8_fewest_14 : decode cX8_fewest 14 = .ok (.if_icmp .gt 32, 3) := by decide +kernel
theorem dX8_fewest_17 : decode cX8_fewest 17 = .ok (.iload_n 2, 1) := by decide +kernel
theorem dX8_fewest_18 : decode cX8_fewest 18 = .ok (.aload_n 0, 1) := by decide +kernel
theorem dX8_fewest_19 : decode cX8_fewest 19 = .ok (.iload_n 3, 1) := by decide +kernel
theorem dX8_fewest_20 : decode cX8_fewest 20 = .ok (.invokevirtual 71, 3) := by decide +kernel
theorem dX8_fewest_23 : decode cX8_fewest 23 = .ok (.invokestatic 41, 3) := by decide +kernel
theorem dX8_fewest_26 : decode cX8_fewest 26 = .ok (.istore 4, 2) := by decide +kernel
theorem dX8_fewest_28 : decode cX8_fewest 28 = .ok (.iload_n 1, 1) := by decide +kernel
theorem dX8_fewest_29 : decode cX8_fewest 29 = .ok (.iload 4, 2) := by decide +kernel
theorem dX8_fewest_31 : decode cX8_fewest 31 = .ok (.iload_n 3, 1) := by decide +kernel
theorem dX8_fewest_32 : decode cX8_fewest 32 = .ok (.imul, 1) := by decide +kernel
theorem dX8_fewest_33 : decode cX8_fewest 33 = .ok (.iadd, 1) := by decide +kernel
theorem dX8_fewest_34 : decode cX8_fewest 34 = .ok (.istore_n 1, 1) := by decide +kernel
theorem dX8_fewest_35 : decode cX8_fewest 35 = .ok (.iload_n 2, 1) := by decide +kernel
theorem dX8_fewest_36 : decode cX8_fewest 36 = .ok (.iload 4, 2) := by decide +kernel
theorem dX8_fewest_38 : decode cX8_fewest 38 = .ok (.isub, 1) := by decide +kernel
theorem dX8_fewest_39 : decode cX8_fewest 39 = .ok (.istore_n 2, 1) := by decide +kernel
theorem dX8_fewest_40 : decode cX8_fewest 40 = .ok (.iinc 3 1, 3) := by decide +kernel
theorem dX8_fewest_43 : decode cX8_fewest 43 = .ok (.goto (-32), 3) := by decide +kernel
theorem dX8_fewest_46 : decode cX8_fewest 46 = .ok (.iload_n 1, 1) := by decide +kernel
theorem dX8_fewest_47 : decode cX8_fewest 47 = .ok (.ireturn, 1) := by decide +kernel
theorem dX8_most_0 : decode cX8_most 0 = .ok (.iconst 0, 1) := by decide +kernel
theorem dX8_most_1 : decode cX8_most 1 = .ok (.istore_n 1, 1) := by decide +kernel
theorem dX8_most_2 : decode cX8_most 2 = .ok (.aload_n 0, 1) := by decide +kernel
theorem dX8_most_3 : decode cX8_most 3 = .ok (.getfield 35, 3) := by decide +kernel
theorem dX8_most_6 : decode cX8_most 6 = .ok (.iconst 0, 1) := by decide +kernel
theorem dX8_most_7 : decode cX8_most 7 = .ok (.iaload, 1) := by decide +kernel
theorem dX8_most_8 : decode cX8_most 8 = .ok (.istore_n 2, 1) := by decide +kernel
theorem dX8_most_9 : decode cX8_most 9 = .ok (.bipush 30, 2) := by decide +kernel
theorem dX8_most_11 : decode cX8_most 11 = .ok (.istore_n 3, 1) := by decide +kernel
theorem dX8_most_12 : decode cX8_most 12 = .ok (.iload_n 3, 1) := by decide +kernel
theorem dX8_most_13 : decode cX8_most 13 = .ok (.iconst 1, 1) := by decide +kernel
theorem dX8_most_14 : decode cX8_most 14 = .ok (.if_icmp .lt 32, 3) := by decide +kernel
theorem dX8_most_17 : decode cX8_most 17 = .ok (.iload_n 2, 1) := by decide +kernel
theorem dX8_most_18 : decode cX8_most 18 = .ok (.aload_n 0, 1) := by decide +kernel
theorem dX8_most_19 : decode cX8_most 19 = .ok (.iload_n 3, 1) := by decide +kernel
theorem dX8_most_20 : decode cX8_most 20 = .ok (.invokevirtual 71, 3) := by decide +kernel
theorem dX8_most_23 : decode cX8_most 23 = .ok (.invokestatic 41, 3) := by decide +kernel
theorem dX8_most_26 : decode cX8_most 26 = .ok (.istore 4, 2) := by decide +kernel
theorem dX8_most_28 : decode cX8_most 28 = .ok (.iload_n 1, 1) := by decide +kernel
theorem dX8_most_29 : decode cX8_most 29 = .ok (.iload 4, 2) := by decide +kernel
theorem dX8_most_31 : decode cX8_most 31 = .ok (.iload_n 3, 1) := by decide +kernel
theorem dX8_most_32 : decode cX8_most 32 = .ok (.imul, 1) := by decide +kernel
theorem dX8_most_33 : decode cX8_most 33 = .ok (.iadd, 1) := by decide +kernel
theorem dX8_most_34 : decode cX8_most 34 = .ok (.istore_n 1, 1) := by decide +kernel
theorem dX8_most_35 : decode cX8_most 35 = .ok (.iload_n 2, 1) := by decide +kernel
theorem dX8_most_36 : decode cX8_most 36 = .ok (.iload 4, 2) := by decide +kernel
theorem dX8_most_38 : decode cX8_most 38 = .ok (.isub, 1) := by decide +kernel
theorem dX8_most_39 : decode cX8_most 39 = .ok (.istore_n 2, 1) := by decide +kernel
theorem dX8_most_40 : decode cX8_most 40 = .ok (.iinc 3 (-1), 3) := by decide +kernel
theorem dX8_most_43 : decode cX8_most 43 = .ok (.goto (-31), 3) := by decide +kernel
theorem dX8_most_46 : decode cX8_most 46 = .ok (.iload_n 1, 1) := by decide +kernel
theorem dX8_most_47 : decode cX8_most 47 = .ok (.ireturn, 1) := by decide +kernel
theorem dX8_clustersThatGive_0 : decode cX8_clustersThatGive 0 = .ok (.iconst 0, 1) := by decide +kernel
theorem dX8_clustersThatGive_1 : decode cX8_clustersThatGive 1 = .ok (.istore_n 2, 1) := by decide +kernel
theorem dX8_clustersThatGive_2 : decode cX8_clustersThatGive 2 = .ok (.iconst 0, 1) := by decide +kernel
theorem dX8_clustersThatGive_3 : decode cX8_clustersThatGive 3 = .ok (.istore_n 3, 1) := by decide +kernel
theorem dX8_clustersThatGive_4 : decode cX8_clustersThatGive 4 = .ok (.iload_n 3, 1) := by decide +kernel
theorem dX8_clustersThatGive_5 : decode cX8_clustersThatGive 5 = .ok (.bipush 8, 2) := by decide +kernel
theorem dX8_clustersThatGive_7 : decode cX8_clustersThatGive 7 = .ok (.if_icmp .ge 21, 3) := by decide +kernel
theorem dX8_clustersThatGive_10 : decode cX8_clustersThatGive 10 = .ok (.aload_n 0, 1) := by decide +kernel
theorem dX8_clustersThatGive_11 : decode cX8_clustersThatGive 11 = .ok (.iload_n 3, 1) := by decide +kernel
theorem dX8_clustersThatGive_12 : decode cX8_clustersThatGive 12 = .ok (.invokevirtual 55, 3) := by decide +kernel
theorem dX8_clustersThatGive_15 : decode cX8_clustersThatGive 15 = .ok (.iload_n 1, 1) := by decide +kernel
theorem dX8_clustersThatGive_16 : decode cX8_clustersThatGive 16 = .ok (.if_icmp .ne 6, 3) := by decide +kernel
theorem dX8_clustersThatGive_19 : decode cX8_clustersThatGive 19 = .ok (.iinc 2 1, 3) := by decide +kernel
theorem dX8_clustersThatGive_22 : decode cX8_clustersThatGive 22 = .ok (.iinc 3 1, 3) := by decide +kernel
theorem dX8_clustersThatGive_25 : decode cX8_clustersThatGive 25 = .ok (.goto (-21), 3) := by decide +kernel
theorem dX8_clustersThatGive_28 : decode cX8_clustersThatGive 28 = .ok (.iload_n 2, 1) := by decide +kernel
theorem dX8_clustersThatGive_29 : decode cX8_clustersThatGive 29 = .ok (.ireturn, 1) := by decide +kernel
theorem dX8_canMake_0 : decode cX8_canMake 0 = .ok (.iconst 0, 1) := by decide +kernel
theorem dX8_canMake_1 : decode cX8_canMake 1 = .ok (.istore_n 2, 1) := by decide +kernel
theorem dX8_canMake_2 : decode cX8_canMake 2 = .ok (.iconst 0, 1) := by decide +kernel
theorem dX8_canMake_3 : decode cX8_canMake 3 = .ok (.istore_n 3, 1) := by decide +kernel
theorem dX8_canMake_4 : decode cX8_canMake 4 = .ok (.iload_n 3, 1) := by decide +kernel
theorem dX8_canMake_5 : decode cX8_canMake 5 = .ok (.bipush 8, 2) := by decide +kernel
theorem dX8_canMake_7 : decode cX8_canMake 7 = .ok (.if_icmp .ge 45, 3) := by decide +kernel
theorem dX8_canMake_10 : decode cX8_canMake 10 = .ok (.iload_n 1, 1) := by decide +kernel
theorem dX8_canMake_11 : decode cX8_canMake 11 = .ok (.aload_n 0, 1) := by decide +kernel
theorem dX8_canMake_12 : decode cX8_canMake 12 = .ok (.getfield 15, 3) := by decide +kernel
theorem dX8_canMake_15 : decode cX8_canMake 15 = .ok (.getfield 31, 3) := by decide +kernel
theorem dX8_canMake_18 : decode cX8_canMake 18 = .ok (.iload_n 3, 1) := by decide +kernel
theorem dX8_canMake_19 : decode cX8_canMake 19 = .ok (.iaload, 1) := by decide +kernel
theorem dX8_canMake_20 : decode cX8_canMake 20 = .ok (.iand, 1) := by decide +kernel
theorem dX8_canMake_21 : decode cX8_canMake 21 = .ok (.invokestatic 25, 3) := by decide +kernel
theorem dX8_canMake_24 : decode cX8_canMake 24 = .ok (.istore 4, 2) := by decide +kernel
theorem dX8_canMake_26 : decode cX8_canMake 26 = .ok (.iload 4, 2) := by decide +kernel
theorem dX8_canMake_28 : decode cX8_canMake 28 = .ok (.ifCond .le 18, 3) := by decide +kernel
theorem dX8_canMake_31 : decode cX8_canMake 31 = .ok (.iinc 2 1, 3) := by decide +kernel
theorem dX8_canMake_34 : decode cX8_canMake 34 = .ok (.iload 4, 2) := by decide +kernel
theorem dX8_canMake_36 : decode cX8_canMake 36 = .ok (.aload_n 0, 1) := by decide +kernel
theorem dX8_canMake_37 : decode cX8_canMake 37 = .ok (.iload_n 3, 1) := by decide +kernel
theorem dX8_canMake_38 : decode cX8_canMake 38 = .ok (.invokevirtual 55, 3) := by decide +kernel
theorem dX8_canMake_41 : decode cX8_canMake 41 = .ok (.if_icmp .eq 5, 3) := by decide +kernel
theorem dX8_canMake_44 : decode cX8_canMake 44 = .ok (.iconst 0, 1) := by decide +kernel
theorem dX8_canMake_45 : decode cX8_canMake 45 = .ok (.ireturn, 1) := by decide +kernel
theorem dX8_canMake_46 : decode cX8_canMake 46 = .ok (.iinc 3 1, 3) := by decide +kernel
theorem dX8_canMake_49 : decode cX8_canMake 49 = .ok (.goto (-45), 3) := by decide +kernel
theorem dX8_canMake_52 : decode cX8_canMake 52 = .ok (.iload_n 2, 1) := by decide +kernel
theorem dX8_canMake_53 : decode cX8_canMake 53 = .ok (.aload_n 0, 1) := by decide +kernel
theorem dX8_canMake_54 : decode cX8_canMake 54 = .ok (.getfield 35, 3) := by decide +kernel
theorem dX8_canMake_57 : decode cX8_canMake 57 = .ok (.iconst 0, 1) := by decide +kernel
theorem dX8_canMake_58 : decode cX8_canMake 58 = .ok (.iaload, 1) := by decide +kernel
theorem dX8_canMake_59 : decode cX8_canMake 59 = .ok (.if_icmp .ne 7, 3) := by decide +kernel
theorem dX8_canMake_62 : decode cX8_canMake 62 = .ok (.iconst 1, 1) := by decide +kernel
theorem dX8_canMake_63 : decode cX8_canMake 63 = .ok (.goto 4, 3) := by decide +kernel
theorem dX8_canMake_66 : decode cX8_canMake 66 = .ok (.iconst 0, 1) := by decide +kernel
theorem dX8_canMake_67 : decode cX8_canMake 67 = .ok (.ireturn, 1) := by decide +kernel
theorem dX8_drawByLots_0 : decode cX8_drawByLots 0 = .ok (.aload_n 0, 1) := by decide +kernel
theorem dX8_drawByLots_1 : decode cX8_drawByLots 1 = .ok (.aload_n 0, 1) := by decide +kernel
theorem dX8_drawByLots_2 : decode cX8_drawByLots 2 = .ok (.getfield 15, 3) := by decide +kernel
theorem dX8_drawByLots_5 : decode cX8_drawByLots 5 = .ok (.getfield 19, 3) := by decide +kernel
theorem dX8_drawByLots_8 : decode cX8_drawByLots 8 = .ok (.aload_n 0, 1) := by decide +kernel
theorem dX8_drawByLots_9 : decode cX8_drawByLots 9 = .ok (.getfield 35, 3) := by decide +kernel
theorem dX8_drawByLots_12 : decode cX8_drawByLots 12 = .ok (.iconst 0, 1) := by decide +kernel
theorem dX8_drawByLots_13 : decode cX8_drawByLots 13 = .ok (.iaload, 1) := by decide +kernel
theorem dX8_drawByLots_14 : decode cX8_drawByLots 14 = .ok (.invokevirtual 74, 3) := by decide +kernel
theorem dX8_drawByLots_17 : decode cX8_drawByLots 17 = .ok (.istore_n 1, 1) := by decide +kernel
theorem dX8_drawByLots_18 : decode cX8_drawByLots 18 = .ok (.iconst 0, 1) := by decide +kernel
theorem dX8_drawByLots_19 : decode cX8_drawByLots 19 = .ok (.istore_n 2, 1) := by decide +kernel
theorem dX8_drawByLots_20 : decode cX8_drawByLots 20 = .ok (.iconst 0, 1) := by decide +kernel
theorem dX8_drawByLots_21 : decode cX8_drawByLots 21 = .ok (.istore_n 3, 1) := by decide +kernel
theorem dX8_drawByLots_22 : decode cX8_drawByLots 22 = .ok (.iload_n 3, 1) := by decide +kernel
theorem dX8_drawByLots_23 : decode cX8_drawByLots 23 = .ok (.bipush 8, 2) := by decide +kernel
theorem dX8_drawByLots_25 : decode cX8_drawByLots 25 = .ok (.if_icmp .ge 38, 3) := by decide +kernel
theorem dX8_drawByLots_28 : decode cX8_drawByLots 28 = .ok (.iload_n 1, 1) := by decide +kernel
theorem dX8_drawByLots_29 : decode cX8_drawByLots 29 = .ok (.iload_n 3, 1) := by decide +kernel
theorem dX8_drawByLots_30 : decode cX8_drawByLots 30 = .ok (.invokestatic 77, 3) := by decide +kernel
theorem dX8_drawByLots_33 : decode cX8_drawByLots 33 = .ok (.ifCond .eq 24, 3) := by decide +kernel
theorem dX8_drawByLots_36 : decode cX8_drawByLots 36 = .ok (.iload_n 2, 1) := by decide +kernel
theorem dX8_drawByLots_37 : decode cX8_drawByLots 37 = .ok (.aload_n 0, 1) := by decide +kernel
theorem dX8_drawByLots_38 : decode cX8_drawByLots 38 = .ok (.aload_n 0, 1) := by decide +kernel
theorem dX8_drawByLots_39 : decode cX8_drawByLots 39 = .ok (.getfield 15, 3) := by decide +kernel
theorem dX8_drawByLots_42 : decode cX8_drawByLots 42 = .ok (.getfield 31, 3) := by decide +kernel
theorem dX8_drawByLots_45 : decode cX8_drawByLots 45 = .ok (.iload_n 3, 1) := by decide +kernel
theorem dX8_drawByLots_46 : decode cX8_drawByLots 46 = .ok (.iaload, 1) := by decide +kernel
theorem dX8_drawByLots_47 : decode cX8_drawByLots 47 = .ok (.aload_n 0, 1) := by decide +kernel
theorem dX8_drawByLots_48 : decode cX8_drawByLots 48 = .ok (.iload_n 3, 1) := by decide +kernel
theorem dX8_drawByLots_49 : decode cX8_drawByLots 49 = .ok (.invokevirtual 55, 3) := by decide +kernel
theorem dX8_drawByLots_52 : decode cX8_drawByLots 52 = .ok (.invokevirtual 74, 3) := by decide +kernel
theorem dX8_drawByLots_55 : decode cX8_drawByLots 55 = .ok (.ior, 1) := by decide +kernel
theorem dX8_drawByLots_56 : decode cX8_drawByLots 56 = .ok (.istore_n 2, 1) := by decide +kernel
theorem dX8_drawByLots_57 : decode cX8_drawByLots 57 = .ok (.iinc 3 1, 3) := by decide +kernel
theorem dX8_drawByLots_60 : decode cX8_drawByLots 60 = .ok (.goto (-38), 3) := by decide +kernel
theorem dX8_drawByLots_63 : decode cX8_drawByLots 63 = .ok (.iload_n 2, 1) := by decide +kernel
theorem dX8_drawByLots_64 : decode cX8_drawByLots 64 = .ok (.ireturn, 1) := by decide +kernel
theorem dX9_init_0 : decode cX9_init 0 = .ok (.aload_n 0, 1) := by decide +kernel
theorem dX9_init_1 : decode cX9_init 1 = .ok (.invokespecial 3, 3) := by decide +kernel
theorem dX9_init_4 : decode cX9_init 4 = .ok (.aload_n 0, 1) := by decide +kernel
theorem dX9_init_5 : decode cX9_init 5 = .ok (.aload_n 1, 1) := by decide +kernel
theorem dX9_init_6 : decode cX9_init 6 = .ok (.putfield 9, 3) := by decide +kernel
theorem dX9_init_9 : decode cX9_init 9 = .ok (.aload_n 0, 1) := by decide +kernel
theorem dX9_init_10 : decode cX9_init 10 = .ok (.aload_n 2, 1) := by decide +kernel
theorem dX9_init_11 : decode cX9_init 11 = .ok (.putfield 15, 3) := by decide +kernel
theorem dX9_init_14 : decode cX9_init 14 = .ok (.return_, 1) := by decide +kernel
theorem dX9_castLot_0 : decode cX9_castLot 0 = .ok (.aload_n 0, 1) := by decide +kernel
theorem dX9_castLot_1 : decode cX9_castLot 1 = .ok (.ldc 19, 2) := by decide +kernel
theorem dX9_castLot_3 : decode cX9_castLot 3 = .ok (.aload_n 0, 1) := by decide +kernel
theorem dX9_castLot_4 : decode cX9_castLot 4 = .ok (.getfield 20, 3) := by decide +kernel
theorem dX9_castLot_7 : decode cX9_castLot 7 = .ok (.imul, 1) := by decide +kernel
theorem dX9_castLot_8 : decode cX9_castLot 8 = .ok (.sipush 12345, 3) := by decide +kernel
theorem dX9_castLot_11 : decode cX9_castLot 11 = .ok (.iadd, 1) := by decide +kernel
theorem dX9_castLot_12 : decode cX9_castLot 12 = .ok (.putfield 20, 3) := by decide +kernel
theorem dX9_castLot_15 : decode cX9_castLot 15 = .ok (.iload_n 1, 1) := by decide +kernel
theorem dX9_castLot_16 : decode cX9_castLot 16 = .ok (.ifCond .gt 7, 3) := by decide +kernel
theorem dX9_castLot_19 : decode cX9_castLot 19 = .ok (.iconst 0, 1) := by decide +kernel
theorem dX9_castLot_20 : decode cX9_castLot 20 = .ok (.goto 12, 3) := by decide +kernel
theorem dX9_castLot_23 : decode cX9_castLot 23 = .ok (.aload_n 0, 1) := by decide +kernel
theorem dX9_castLot_24 : decode cX9_castLot 24 = .ok (.getfield 20, 3) := by decide +kernel
theorem dX9_castLot_27 : decode cX9_castLot 27 = .ok (.bipush 16, 2) := by decide +kernel
theorem dX9_castLot_29 : decode cX9_castLot 29 = .ok (.iushr, 1) := by decide +kernel
theorem dX9_castLot_30 : decode cX9_castLot 30 = .ok (.iload_n 1, 1) := by decide +kernel
theorem dX9_castLot_31 : decode cX9_castLot 31 = .ok (.irem, 1) := by decide +kernel
theorem dX9_castLot_32 : decode cX9_castLot 32 = .ok (.ireturn, 1) := by decide +kernel
theorem dX9_takeByLots_0 : decode cX9_takeByLots 0 = .ok (.iconst 0, 1) := by decide +kernel
theorem dX9_takeByLots_1 : decode cX9_takeByLots 1 = .ok (.istore_n 3, 1) := by decide +kernel
theorem dX9_takeByLots_2 : decode cX9_takeByLots 2 = .ok (.iload_n 1, 1) := by decide +kernel
theorem dX9_takeByLots_3 : decode cX9_takeByLots 3 = .ok (.invokestatic 24, 3) := by decide +kernel
theorem dX9_takeByLots_6 : decode cX9_takeByLots 6 = .ok (.istore 4, 2) := by decide +kernel
theorem dX9_takeByLots_8 : decode cX9_takeByLots 8 = .ok (.iload_n 2, 1) := by decide +kernel
theorem dX9_takeByLots_9 : decode cX9_takeByLots 9 = .ok (.istore 5, 2) := by decide +kernel
theorem dX9_takeByLots_11 : decode cX9_takeByLots 11 = .ok (.iconst 0, 1) := by decide +kernel
theorem dX9_takeByLots_12 : decode cX9_takeByLots 12 = .ok (.istore 6, 2) := by decide +kernel
theorem dX9_takeByLots_14 : decode cX9_takeByLots 14 = .ok (.iload 6, 2) := by decide +kernel
theorem dX9_takeByLots_16 : decode cX9_takeByLots 16 = .ok (.bipush 30, 2) := by decide +kernel
theorem dX9_takeByLots_18 : decode cX9_takeByLots 18 = .ok (.if_icmp .ge 45, 3) := by decide +kernel
theorem dX9_takeByLots_21 : decode cX9_takeByLots 21 = .ok (.iload_n 1, 1) := by decide +kernel
theorem dX9_takeByLots_22 : decode cX9_takeByLots 22 = .ok (.iload 6, 2) := by decide +kernel
theorem dX9_takeByLots_24 : decode cX9_takeByLots 24 = .ok (.invokestatic 30, 3) := by decide +kernel
theorem dX9_takeByLots_27 : decode cX9_takeByLots 27 = .ok (.ifCond .ne 6, 3) := by decide +kernel
theorem dX9_takeByLots_30 : decode cX9_takeByLots 30 = .ok (.goto 27, 3) := by decide +kernel
theorem dX9_takeByLots_33 : decode cX9_takeByLots 33 = .ok (.aload_n 0, 1) := by decide +kernel
theorem dX9_takeByLots_34 : decode cX9_takeByLots 34 = .ok (.iload 4, 2) := by decide +kernel
theorem dX9_takeByLots_36 : decode cX9_takeByLots 36 = .ok (.invokevirtual 34, 3) := by decide +kernel
theorem dX9_takeByLots_39 : decode cX9_takeByLots 39 = .ok (.iload 5, 2) := by decide +kernel
theorem dX9_takeByLots_41 : decode cX9_takeByLots 41 = .ok (.if_icmp .ge 13, 3) := by decide +kernel
theorem dX9_takeByLots_44 : decode cX9_takeByLots 44 = .ok (.iload_n 3, 1) := by decide +kernel
theorem dX9_takeByLots_45 : decode cX9_takeByLots 45 = .ok (.iconst 1, 1) := by decide +kernel
theorem dX9_takeByLots_46 : decode cX9_takeByLots 46 = .ok (.iload 6, 2) := by decide +kernel
theorem dX9_takeByLots_48 : decode cX9_takeByLots 48 = .ok (.ishl, 1) := by decide +kernel
theorem dX9_takeByLots_49 : decode cX9_takeByLots 49 = .ok (.ior, 1) := by decide +kernel
theorem dX9_takeByLots_50 : decode cX9_takeByLots 50 = .ok (.istore_n 3, 1) := by decide +kernel
theorem dX9_takeByLots_51 : decode cX9_takeByLots 51 = .ok (.iinc 5 (-1), 3) := by decide +kernel
theorem dX9_takeByLots_54 : decode cX9_takeByLots 54 = .ok (.iinc 4 (-1), 3) := by decide +kernel
theorem dX9_takeByLots_57 : decode cX9_takeByLots 57 = .ok (.iinc 6 1, 3) := by decide +kernel
theorem dX9_takeByLots_60 : decode cX9_takeByLots 60 = .ok (.goto (-46), 3) := by decide +kernel
theorem dX9_takeByLots_63 : decode cX9_takeByLots 63 = .ok (.iload_n 3, 1) := by decide +kernel
theorem dX9_takeByLots_64 : decode cX9_takeByLots 64 = .ok (.ireturn, 1) := by decide +kernel
theorem dX9_waysToTake_0 : decode cX9_waysToTake 0 = .ok (.lconst 1, 1) := by decide +kernel
theorem dX9_waysToTake_1 : decode cX9_waysToTake 1 = .ok (.lstore_n 2, 1) := by decide +kernel
theorem dX9_waysToTake_2 : decode cX9_waysToTake 2 = .ok (.iconst 1, 1) := by decide +kernel
theorem dX9_waysToTake_3 : decode cX9_waysToTake 3 = .ok (.istore 4, 2) := by decide +kernel
theorem dX9_waysToTake_5 : decode cX9_waysToTake 5 = .ok (.iload 4, 2) := by decide +kernel
theorem dX9_waysToTake_7 : decode cX9_waysToTake 7 = .ok (.iload_n 0, 1) := by decide +kernel
theorem dX9_waysToTake_8 : decode cX9_waysToTake 8 = .ok (.if_icmp .gt 23, 3) := by decide +kernel
theorem dX9_waysToTake_11 : decode cX9_waysToTake 11 = .ok (.lload_n 2, 1) := by decide +kernel
theorem dX9_waysToTake_12 : decode cX9_waysToTake 12 = .ok (.iload_n 1, 1) := by decide +kernel
theorem dX9_waysToTake_13 : decode cX9_waysToTake 13 = .ok (.iload_n 0, 1) := by decide +kernel
theorem dX9_waysToTake_14 : decode cX9_waysToTake 14 = .ok (.isub, 1) := by decide +kernel
theorem dX9_waysToTake_15 : decode cX9_waysToTake 15 = .ok (.iload 4, 2) := by decide +kernel
theorem dX9_waysToTake_17 : decode cX9_waysToTake 17 = .ok (.iadd, 1) := by decide +kernel
theorem dX9_waysToTake_18 : decode cX9_waysToTake 18 = .ok (.i2l, 1) := by decide +kernel
theorem dX9_waysToTake_19 : decode cX9_waysToTake 19 = .ok (.lmul, 1) := by decide +kernel
theorem dX9_waysToTake_20 : decode cX9_waysToTake 20 = .ok (.iload 4, 2) := by decide +kernel
theorem dX9_waysToTake_22 : decode cX9_waysToTake 22 = .ok (.i2l, 1) := by decide +kernel
theorem dX9_waysToTake_23 : decode cX9_waysToTake 23 = .ok (.ldiv, 1) := by decide +kernel
theorem dX9_waysToTake_24 : decode cX9_waysToTake 24 = .ok (.lstore_n 2, 1) := by decide +kernel
theorem dX9_waysToTake_25 : decode cX9_waysToTake 25 = .ok (.iinc 4 1, 3) := by decide +kernel
theorem dX9_waysToTake_28 : decode cX9_waysToTake 28 = .ok (.goto (-23), 3) := by decide +kernel
theorem dX9_waysToTake_31 : decode cX9_waysToTake 31 = .ok (.lload_n 2, 1) := by decide +kernel
theorem dX9_waysToTake_32 : decode cX9_waysToTake 32 = .ok (.lreturn, 1) := by decide +kernel
theorem dX10_init_0 : decode cX10_init 0 = .ok (.aload_n 0, 1) := by decide +kernel
theorem dX10_init_1 : decode cX10_init 1 = .ok (.invokespecial 3, 3) := by decide +kernel
theorem dX10_init_4 : decode cX10_init 4 = .ok (.aload_n 0, 1) := by decide +kernel
theorem dX10_init_5 : decode cX10_init 5 = .ok (.iconst 4, 1) := by decide +kernel
theorem dX10_init_6 : decode cX10_init 6 = .ok (.newarray .int, 2) := by decide +kernel
theorem dX10_init_8 : decode cX10_init 8 = .ok (.putfield 9, 3) := by decide +kernel
theorem dX10_init_11 : decode cX10_init 11 = .ok (.aload_n 0, 1) := by decide +kernel
theorem dX10_init_12 : decode cX10_init 12 = .ok (.iconst 3, 1) := by decide +kernel
theorem dX10_init_13 : decode cX10_init 13 = .ok (.newarray .int, 2) := by decide +kernel
theorem dX10_init_15 : decode cX10_init 15 = .ok (.putfield 15, 3) := by decide +kernel
theorem dX10_init_18 : decode cX10_init 18 = .ok (.aload_n 0, 1) := by decide +kernel
theorem dX10_init_19 : decode cX10_init 19 = .ok (.bipush 30, 2) := by decide +kernel
theorem dX10_init_21 : decode cX10_init 21 = .ok (.newarray .int, 2) := by decide +kernel
theorem dX10_init_23 : decode cX10_init 23 = .ok (.putfield 18, 3) := by decide +kernel
theorem dX10_init_26 : decode cX10_init 26 = .ok (.aload_n 0, 1) := by decide +kernel
theorem dX10_init_27 : decode cX10_init 27 = .ok (.bipush 30, 2) := by decide +kernel
theorem dX10_init_29 : decode cX10_init 29 = .ok (.newarray .long, 2) := by decide +kernel
theorem dX10_init_31 : decode cX10_init 31 = .ok (.putfield 21, 3) := by decide +kernel
theorem dX10_init_34 : decode cX10_init 34 = .ok (.aload_n 0, 1) := by decide +kernel
theorem dX10_init_35 : decode cX10_init 35 = .ok (.new 25, 3) := by decide +kernel
theorem dX10_init_38 : decode cX10_init 38 = .ok (.dup, 1) := by decide +kernel
theorem dX10_init_39 : decode cX10_init 39 = .ok (.invokespecial 27, 3) := by decide +kernel
theorem dX10_init_42 : decode cX10_init 42 = .ok (.putfield 28, 3) := by decide +kernel
theorem dX10_init_45 : decode cX10_init 45 = .ok (.aload_n 0, 1) := by decide +kernel
theorem dX10_init_46 : decode cX10_init 46 = .ok (.aload_n 1, 1) := by decide +kernel
theorem dX10_init_47 : decode cX10_init 47 = .ok (.putfield 32, 3) := by decide +kernel
theorem dX10_init_50 : decode cX10_init 50 = .ok (.return_, 1) := by decide +kernel
theorem dX10_lead_0 : decode cX10_lead 0 = .ok (.aload_n 0, 1) := by decide +kernel
theorem dX10_lead_1 : decode cX10_lead 1 = .ok (.aload_n 1, 1) := by decide +kernel
theorem dX10_lead_2 : decode cX10_lead 2 = .ok (.iload_n 2, 1) := by decide +kernel
theorem dX10_lead_3 : decode cX10_lead 3 = .ok (.aload_n 0, 1) := by decide +kernel
theorem dX10_lead_4 : decode cX10_lead 4 = .ok (.getfield 32, 3) := by decide +kernel
theorem dX10_lead_7 : decode cX10_lead 7 = .ok (.getfield 36, 3) := by decide +kernel
theorem dX10_lead_10 : decode cX10_lead 10 = .ok (.iand, 1) := by decide +kernel
theorem dX10_lead_11 : decode cX10_lead 11 = .ok (.invokevirtual 42, 3) := by decide +kernel
theorem dX10_lead_14 : decode cX10_lead 14 = .ok (.iconst 0, 1) := by decide +kernel
theorem dX10_lead_15 : decode cX10_lead 15 = .ok (.istore 4, 2) := by decide +kernel
theorem dX10_lead_17 : decode cX10_lead 17 = .ok (.iload 4, 2) := by decide +kernel
theorem dX10_lead_19 : decode cX10_lead 19 = .ok (.iload_n 3, 1) := by decide +kernel
theorem dX10_lead_20 : decode cX10_lead 20 = .ok (.if_icmp .ge 81, 3) := by decide +kernel
theorem dX10_lead_23 : decode cX10_lead 23 = .ok (.iconst 0, 1) := by decide +kernel
theorem dX10_lead_24 : decode cX10_lead 24 = .ok (.istore 5, 2) := by decide +kernel
theorem dX10_lead_26 : decode cX10_lead 26 = .ok (.iload 5, 2) := by decide +kernel
theorem dX10_lead_28 : decode cX10_lead 28 = .ok (.iconst 4, 1) := by decide +kernel
theorem dX10_lead_29 : decode cX10_lead 29 = .ok (.if_icmp .ge 30, 3) := by decide +kernel
theorem dX10_lead_32 : decode cX10_lead 32 = .ok (.aload_n 0, 1) := by decide +kernel
theorem dX10_lead_33 : decode cX10_lead 33 = .ok (.aload_n 0, 1) := by decide +kernel
theorem dX10_lead_34 : decode cX10_lead 34 = .ok (.getfield 9, 3) := by decide +kernel
theorem dX10_lead_37 : decode cX10_lead 37 = .ok (.iload 5, 2) := by decide +kernel
theorem dX10_lead_39 : decode cX10_lead 39 = .ok (.iaload, 1) := by decide +kernel
theorem dX10_lead_40 : decode cX10_lead 40 = .ok (.aload_n 0, 1) := by decide +kernel
theorem dX10_lead_41 : decode cX10_lead 41 = .ok (.getfield 32, 3) := by decide +kernel
theorem dX10_lead_44 : decode cX10_lead 44 = .ok (.getfield 46, 3) := by decide +kernel
theorem dX10_lead_47 : decode cX10_lead 47 = .ok (.iload 5, 2) := by decide +kernel
theorem dX10_lead_49 : decode cX10_lead 49 = .ok (.iaload, 1) := by decide +kernel
theorem dX10_lead_50 : decode cX10_lead 50 = .ok (.invokevirtual 49, 3) := by decide +kernel
theorem dX10_lead_53 : decode cX10_lead 53 = .ok (.iinc 5 1, 3) := by decide +kernel
theorem dX10_lead_56 : decode cX10_lead 56 = .ok (.goto (-30), 3) := by decide +kernel
theorem dX10_lead_59 : decode cX10_lead 59 = .ok (.iconst 0, 1) := by decide +kernel
theorem dX10_lead_60 : decode cX10_lead 60 = .ok (.istore 5, 2) := by decide +kernel
theorem dX10_lead_62 : decode cX10_lead 62 = .ok (.iload 5, 2) := by decide +kernel
theorem dX10_lead_64 : decode cX10_lead 64 = .ok (.iconst 3, 1) := by decide +kernel
theorem dX10_lead_65 : decode cX10_lead 65 = .ok (.if_icmp .ge 30, 3) := by decide +kernel
theorem dX10_lead_68 : decode cX10_lead 68 = .ok (.aload_n 0, 1) := by decide +kernel
theorem dX10_lead_69 : decode cX10_lead 69 = .ok (.aload_n 0, 1) := by decide +kernel
theorem dX10_lead_70 : decode cX10_lead 70 = .ok (.getfield 15, 3) := by decide +kernel
theorem dX10_lead_73 : decode cX10_lead 73 = .ok (.iload 5, 2) := by decide +kernel
theorem dX10_lead_75 : decode cX10_lead 75 = .ok (.iaload, 1) := by decide +kernel
theorem dX10_lead_76 : decode cX10_lead 76 = .ok (.aload_n 0, 1) := by decide +kernel
theorem dX10_lead_77 : decode cX10_lead 77 = .ok (.getfield 32, 3) := by decide +kernel
theorem dX10_lead_80 : decode cX10_lead 80 = .ok (.getfield 53, 3) := by decide +kernel
theorem dX10_lead_83 : decode cX10_lead 83 = .ok (.iload 5, 2) := by decide +kernel
theorem dX10_lead_85 : decode cX10_lead 85 = .ok (.iaload, 1) := by decide +kernel
theorem dX10_lead_86 : decode cX10_lead 86 = .ok (.invokevirtual 49, 3) := by decide +kernel
theorem dX10_lead_89 : decode cX10_lead 89 = .ok (.iinc 5 1, 3) := by decide +kernel
theorem dX10_lead_92 : decode cX10_lead 92 = .ok (.goto (-30), 3) := by decide +kernel
theorem dX10_lead_95 : decode cX10_lead 95 = .ok (.iinc 4 1, 3) := by decide +kernel
theorem dX10_lead_98 : decode cX10_lead 98 = .ok (.goto (-81), 3) := by decide +kernel
theorem dX10_lead_101 : decode cX10_lead 101 = .ok (.return_, 1) := by decide +kernel
theorem dX10_start_0 : decode cX10_start 0 = .ok (.iconst 0, 1) := by decide +kernel
theorem dX10_start_1 : decode cX10_start 1 = .ok (.istore_n 3, 1) := by decide +kernel
theorem dX10_start_2 : decode cX10_start 2 = .ok (.iload_n 3, 1) := by decide +kernel
theorem dX10_start_3 : decode cX10_start 3 = .ok (.bipush 30, 2) := by decide +kernel
theorem dX10_start_5 : decode cX10_start 5 = .ok (.if_icmp .ge 50, 3) := by decide +kernel
theorem dX10_start_8 : decode cX10_start 8 = .ok (.aload_n 0, 1) := by decide +kernel
theorem dX10_start_9 : decode cX10_start 9 = .ok (.getfield 18, 3) := by decide +kernel
theorem dX10_start_12 : decode cX10_start 12 = .ok (.iload_n 3, 1) := by decide +kernel
theorem dX10_start_13 : decode cX10_start 13 = .ok (.iconst 0, 1) := by decide +kernel
theorem dX10_start_14 : decode cX10_start 14 = .ok (.iastore, 1) := by decide +kernel
theorem dX10_start_15 : decode cX10_start 15 = .ok (.aload_n 1, 1) := by decide +kernel
theorem dX10_start_16 : decode cX10_start 16 = .ok (.ifnull 33, 3) := by decide +kernel
theorem dX10_start_19 : decode cX10_start 19 = .ok (.iload_n 2, 1) := by decide +kernel
theorem dX10_start_20 : decode cX10_start 20 = .ok (.iload_n 3, 1) := by decide +kernel
theorem dX10_start_21 : decode cX10_start 21 = .ok (.invokestatic 56, 3) := by decide +kernel
theorem dX10_start_24 : decode cX10_start 24 = .ok (.ifCond .eq 25, 3) := by decide +kernel
theorem dX10_start_27 : decode cX10_start 27 = .ok (.aload_n 1, 1) := by decide +kernel
theorem dX10_start_28 : decode cX10_start 28 = .ok (.iload_n 3, 1) := by decide +kernel
theorem dX10_start_29 : decode cX10_start 29 = .ok (.aload_n 0, 1) := by decide +kernel
theorem dX10_start_30 : decode cX10_start 30 = .ok (.getfield 28, 3) := by decide +kernel
theorem dX10_start_33 : decode cX10_start 33 = .ok (.invokevirtual 60, 3) := by decide +kernel
theorem dX10_start_36 : decode cX10_start 36 = .ok (.aload_n 0, 1) := by decide +kernel
theorem dX10_start_37 : decode cX10_start 37 = .ok (.getfield 18, 3) := by decide +kernel
theorem dX10_start_40 : decode cX10_start 40 = .ok (.iload_n 3, 1) := by decide +kernel
theorem dX10_start_41 : decode cX10_start 41 = .ok (.aload_n 0, 1) := by decide +kernel
theorem dX10_start_42 : decode cX10_start 42 = .ok (.getfield 28, 3) := by decide +kernel
theorem dX10_start_45 : decode cX10_start 45 = .ok (.invokevirtual 66, 3) := by decide +kernel
theorem dX10_start_48 : decode cX10_start 48 = .ok (.iastore, 1) := by decide +kernel
theorem dX10_start_49 : decode cX10_start 49 = .ok (.iinc 3 1, 3) := by decide +kernel
theorem dX10_start_52 : decode cX10_start 52 = .ok (.goto (-50), 3) := by decide +kernel
theorem dX10_start_55 : decode cX10_start 55 = .ok (.return_, 1) := by decide +kernel
theorem dX10_divide_0 : decode cX10_divide 0 = .ok (.aload_n 0, 1) := by decide +kernel
theorem dX10_divide_1 : decode cX10_divide 1 = .ok (.iload_n 2, 1) := by decide +kernel
theorem dX10_divide_2 : decode cX10_divide 2 = .ok (.invokevirtual 70, 3) := by decide +kernel
theorem dX10_divide_5 : decode cX10_divide 5 = .ok (.i2l, 1) := by decide +kernel
theorem dX10_divide_6 : decode cX10_divide 6 = .ok (.lstore_n 3, 1) := by decide +kernel
theorem dX10_divide_7 : decode cX10_divide 7 = .ok (.lload_n 3, 1) := by decide +kernel
theorem dX10_divide_8 : decode cX10_divide 8 = .ok (.lconst 0, 1) := by decide +kernel
theorem dX10_divide_9 : decode cX10_divide 9 = .ok (.lcmp, 1) := by decide +kernel
theorem dX10_divide_10 : decode cX10_divide 10 = .ok (.ifCond .gt 4, 3) := by decide +kernel
theorem dX10_divide_13 : decode cX10_divide 13 = .ok (.return_, 1) := by decide +kernel
theorem dX10_divide_14 : decode cX10_divide 14 = .ok (.iload_n 1, 1) := by decide +kernel
theorem dX10_divide_15 : decode cX10_divide 15 = .ok (.istore 5, 2) := by decide +kernel
theorem dX10_divide_17 : decode cX10_divide 17 = .ok (.iconst 0, 1) := by decide +kernel
theorem dX10_divide_18 : decode cX10_divide 18 = .ok (.istore 6, 2) := by decide +kernel
theorem dX10_divide_20 : decode cX10_divide 20 = .ok (.iload 6, 2) := by decide +kernel
theorem dX10_divide_22 : decode cX10_divide 22 = .ok (.aload_n 0, 1) := by decide +kernel
theorem dX10_divide_23 : decode cX10_divide 23 = .ok (.getfield 32, 3) := by decide +kernel
theorem dX10_divide_26 : decode cX10_divide 26 = .ok (.getfield 74, 3) := by decide +kernel
theorem dX10_divide_29 : decode cX10_divide 29 = .ok (.if_icmp .ge 66, 3) := by decide +kernel
theorem dX10_divide_32 : decode cX10_divide 32 = .ok (.iload_n 2, 1) := by decide +kernel
theorem dX10_divide_33 : decode cX10_divide 33 = .ok (.iload 6, 2) := by decide +kernel
theorem dX10_divide_35 : decode cX10_divide 35 = .ok (.invokestatic 56, 3) := by decide +kernel
theorem dX10_divide_38 : decode cX10_divide 38 = .ok (.ifCond .eq 51, 3) := by decide +kernel
theorem dX10_divide_41 : decode cX10_divide 41 = .ok (.iload_n 1, 1) := by decide +kernel
theorem dX10_divide_42 : decode cX10_divide 42 = .ok (.i2l, 1) := by decide +kernel
theorem dX10_divide_43 : decode cX10_divide 43 = .ok (.aload_n 0, 1) := by decide +kernel
theorem dX10_divide_44 : decode cX10_divide 44 = .ok (.getfield 18, 3) := by decide +kernel
theorem dX10_divide_47 : decode cX10_divide 47 = .ok (.iload 6, 2) := by decide +kernel
theorem dX10_divide_49 : decode cX10_divide 49 = .ok (.iaload, 1) := by decide +kernel
theorem dX10_divide_50 : decode cX10_divide 50 = .ok (.i2l, 1) := by decide +kernel
theorem dX10_divide_51 : decode cX10_divide 51 = .ok (.lmul, 1) := by decide +kernel
theorem dX10_divide_52 : decode cX10_divide 52 = .ok (.lstore 7, 2) := by decide +kernel
theorem dX10_divide_54 : decode cX10_divide 54 = .ok (.aload_n 0, 1) := by decide +kernel
theorem dX10_divide_55 : decode cX10_divide 55 = .ok (.getfield 18, 3) := by decide +kernel
theorem dX10_divide_58 : decode cX10_divide 58 = .ok (.iload 6, 2) := by decide +kernel
theorem dX10_divide_60 : decode cX10_divide 60 = .ok (.lload 7, 2) := by decide +kernel
theorem dX10_divide_62 : decode cX10_divide 62 = .ok (.lload_n 3, 1) := by decide +kernel
theorem dX10_divide_63 : decode cX10_divide 63 = .ok (.ldiv, 1) := by decide +kernel
theorem dX10_divide_64 : decode cX10_divide 64 = .ok (.l2i, 1) := by decide +kernel
theorem dX10_divide_65 : decode cX10_divide 65 = .ok (.iastore, 1) := by decide +kernel
theorem dX10_divide_66 : decode cX10_divide 66 = .ok (.aload_n 0, 1) := by decide +kernel
theorem dX10_divide_67 : decode cX10_divide 67 = .ok (.getfield 21, 3) := by decide +kernel
theorem dX10_divide_70 : decode cX10_divide 70 = .ok (.iload 6, 2) := by decide +kernel
theorem dX10_divide_72 : decode cX10_divide 72 = .ok (.lload 7, 2) := by decide +kernel
theorem dX10_divide_74 : decode cX10_divide 74 = .ok (.lload_n 3, 1) := by decide +kernel
theorem dX10_divide_75 : decode cX10_divide 75 = .ok (.lrem, 1) := by decide +kernel
theorem dX10_divide_76 : decode cX10_divide 76 = .ok (.lastore, 1) := by decide +kernel
theorem dX10_divide_77 : decode cX10_divide 77 = .ok (.iload 5, 2) := by decide +kernel
theorem dX10_divide_79 : decode cX10_divide 79 = .ok (.aload_n 0, 1) := by decide +kernel
theorem dX10_divide_80 : decode cX10_divide 80 = .ok (.getfield 18, 3) := by decide +kernel
theorem dX10_divide_83 : decode cX10_divide 83 = .ok (.iload 6, 2) := by decide +kernel
theorem dX10_divide_85 : decode cX10_divide 85 = .ok (.iaload, 1) := by decide +kernel
theorem dX10_divide_86 : decode cX10_divide 86 = .ok (.isub, 1) := by decide +kernel
theorem dX10_divide_87 : decode cX10_divide 87 = .ok (.istore 5, 2) := by decide +kernel
theorem dX10_divide_89 : decode cX10_divide 89 = .ok (.iinc 6 1, 3) := by decide +kernel
theorem dX10_divide_92 : decode cX10_divide 92 = .ok (.goto (-72), 3) := by decide +kernel
theorem dX10_divide_95 : decode cX10_divide 95 = .ok (.iconst 0, 1) := by decide +kernel
theorem dX10_divide_96 : decode cX10_divide 96 = .ok (.istore 6, 2) := by decide +kernel
theorem dX10_divide_98 : decode cX10_divide 98 = .ok (.iload 6, 2) := by decide +kernel
theorem dX10_divide_100 : decode cX10_divide 100 = .ok (.iload 5, 2) := by decide +kernel
theorem dX10_divide_102 : decode cX10_divide 102 = .ok (.if_icmp .ge 21, 3) := by decide +kernel
theorem dX10_divide_105 : decode cX10_divide 105 = .ok (.iload 6, 2) := by decide +kernel
theorem dX10_divide_107 : decode cX10_divide 107 = .ok (.bipush 30, 2) := by decide +kernel
theorem dX10_divide_109 : decode cX10_divide 109 = .ok (.if_icmp .ge 14, 3) := by decide +kernel
theorem dX10_divide_112 : decode cX10_divide 112 = .ok (.aload_n 0, 1) := by decide +kernel
theorem dX10_divide_113 : decode cX10_divide 113 = .ok (.iload_n 2, 1) := by decide +kernel
theorem dX10_divide_114 : decode cX10_divide 114 = .ok (.invokevirtual 77, 3) := by decide +kernel
theorem dX10_divide_117 : decode cX10_divide 117 = .ok (.iinc 6 1, 3) := by decide +kernel
theorem dX10_divide_120 : decode cX10_divide 120 = .ok (.goto (-22), 3) := by decide +kernel
theorem dX10_divide_123 : decode cX10_divide 123 = .ok (.return_, 1) := by decide +kernel
theorem dX10_raiseGreatestRest_0 : decode cX10_raiseGreatestRest 0 = .ok (.iconst (-1), 1) := by decide +kernel
theorem dX10_raiseGreatestRest_1 : decode cX10_raiseGreatestRest 1 = .ok (.istore_n 2, 1) := by decide +kernel
theorem dX10_raiseGreatestRest_2 : decode cX10_raiseGreatestRest 2 = .ok (.iconst 0, 1) := by decide +kernel
theorem dX10_raiseGreatestRest_3 : decode cX10_raiseGreatestRest 3 = .ok (.istore_n 3, 1) := by decide +kernel
theorem dX10_raiseGreatestRest_4 : decode cX10_raiseGreatestRest 4 = .ok (.iload_n 3, 1) := by decide +kernel
theorem dX10_raiseGreatestRest_5 : decode cX10_raiseGreatestRest 5 = .ok (.aload_n 0, 1) := by decide +kernel
theorem dX10_raiseGreatestRest_6 : decode cX10_raiseGreatestRest 6 = .ok (.getfield 32, 3) := by decide +kernel
theorem dX10_raiseGreatestRest_9 : decode cX10_raiseGreatestRest 9 = .ok (.getfield 74, 3) := by decide +kernel
theorem dX10_raiseGreatestRest_12 : decode cX10_raiseGreatestRest 12 = .ok (.if_icmp .ge 40, 3) := by decide +kernel
theorem dX10_raiseGreatestRest_15 : decode cX10_raiseGreatestRest 15 = .ok (.iload_n 1, 1) := by decide +kernel
theorem dX10_raiseGreatestRest_16 : decode cX10_raiseGreatestRest 16 = .ok (.iload_n 3, 1) := by decide +kernel
theorem dX10_raiseGreatestRest_17 : decode cX10_raiseGreatestRest 17 = .ok (.invokestatic 56, 3) := by decide +kernel
theorem dX10_raiseGreatestRest_20 : decode cX10_raiseGreatestRest 20 = .ok (.ifCond .eq 26, 3) := by decide +kernel
theorem dX10_raiseGreatestRest_23 : decode cX10_raiseGreatestRest 23 = .ok (.iload_n 2, 1) := by decide +kernel
theorem dX10_raiseGreatestRest_24 : decode cX10_raiseGreatestRest 24 = .ok (.iconst (-1), 1) := by decide +kernel
theorem dX10_raiseGreatestRest_25 : decode cX10_raiseGreatestRest 25 = .ok (.if_icmp .eq 19, 3) := by decide +kernel
theorem dX10_raiseGreatestRest_28 : decode cX10_raiseGreatestRest 28 = .ok (.aload_n 0, 1) := by decide +kernel
theorem dX10_raiseGreatestRest_29 : decode cX10_raiseGreatestRest 29 = .ok (.getfield 21, 3) := by decide +kernel
theorem dX10_raiseGreatestRest_32 : decode cX10_raiseGreatestRest 32 = .ok (.iload_n 3, 1) := by decide +kernel
theorem dX10_raiseGreatestRest_33 : decode cX10_raiseGreatestRest 33 = .ok (.laload, 1) := by decide +kernel
theorem dX10_raiseGreatestRest_34 : decode cX10_raiseGreatestRest 34 = .ok (.aload_n 0, 1) := by decide +kernel
theorem dX10_raiseGreatestRest_35 : decode cX10_raiseGreatestRest 35 = .ok (.getfield 21, 3) := by decide +kernel
theorem dX10_raiseGreatestRest_38 : decode cX10_raiseGreatestRest 38 = .ok (.iload_n 2, 1) := by decide +kernel
theorem dX10_raiseGreatestRest_39 : decode cX10_raiseGreatestRest 39 = .ok (.laload, 1) := by decide +kernel
theorem dX10_raiseGreatestRest_40 : decode cX10_raiseGreatestRest 40 = .ok (.lcmp, 1) := by decide +kernel
theorem dX10_raiseGreatestRest_41 : decode cX10_raiseGreatestRest 41 = .ok (.ifCond .le 5, 3) := by decide +kernel
theorem dX10_raiseGreatestRest_44 : decode cX10_raiseGreatestRest 44 = .ok (.iload_n 3, 1) := by decide +kernel
theorem dX10_raiseGreatestRest_45 : decode cX10_raiseGreatestRest 45 = .ok (.istore_n 2, 1) := by decide +kernel
theorem dX10_raiseGreatestRest_46 : decode cX10_raiseGreatestRest 46 = .ok (.iinc 3 1, 3) := by decide +kernel
theorem dX10_raiseGreatestRest_49 : decode cX10_raiseGreatestRest 49 = .ok (.goto (-45), 3) := by decide +kernel
theorem dX10_raiseGreatestRest_52 : decode cX10_raiseGreatestRest 52 = .ok (.iload_n 2, 1) := by decide +kernel
theorem dX10_raiseGreatestRest_53 : decode cX10_raiseGreatestRest 53 = .ok (.iconst (-1), 1) := by decide +kernel
theorem dX10_raiseGreatestRest_54 : decode cX10_raiseGreatestRest 54 = .ok (.if_icmp .eq 22, 3) := by decide +kernel
theorem dX10_raiseGreatestRest_57 : decode cX10_raiseGreatestRest 57 = .ok (.aload_n 0, 1) := by decide +kernel
theorem dX10_raiseGreatestRest_58 : decode cX10_raiseGreatestRest 58 = .ok (.getfield 18, 3) := by decide +kernel
theorem dX10_raiseGreatestRest_61 : decode cX10_raiseGreatestRest 61 = .ok (.iload_n 2, 1) := by decide +kernel
theorem dX10_raiseGreatestRest_62 : decode cX10_raiseGreatestRest 62 = .ok (.dup2, 1) := by decide +kernel
theorem dX10_raiseGreatestRest_63 : decode cX10_raiseGreatestRest 63 = .ok (.iaload, 1) := by decide +kernel
theorem dX10_raiseGreatestRest_64 : decode cX10_raiseGreatestRest 64 = .ok (.iconst 1, 1) := by decide +kernel
theorem dX10_raiseGreatestRest_65 : decode cX10_raiseGreatestRest 65 = .ok (.iadd, 1) := by decide +kernel
theorem dX10_raiseGreatestRest_66 : decode cX10_raiseGreatestRest 66 = .ok (.iastore, 1) := by decide +kernel
theorem dX10_raiseGreatestRest_67 : decode cX10_raiseGreatestRest 67 = .ok (.aload_n 0, 1) := by decide +kernel
theorem dX10_raiseGreatestRest_68 : decode cX10_raiseGreatestRest 68 = .ok (.getfield 21, 3) := by decide +kernel
theorem dX10_raiseGreatestRest_71 : decode cX10_raiseGreatestRest 71 = .ok (.iload_n 2, 1) := by decide +kernel
theorem dX10_raiseGreatestRest_72 : decode cX10_raiseGreatestRest 72 = .ok (.ldc2_w 81, 3) := by decide +kernel
theorem dX10_raiseGreatestRest_75 : decode cX10_raiseGreatestRest 75 = .ok (.lastore, 1) := by decide +kernel
theorem dX10_raiseGreatestRest_76 : decode cX10_raiseGreatestRest 76 = .ok (.return_, 1) := by decide +kernel
theorem dX10_sumOf_0 : decode cX10_sumOf 0 = .ok (.iconst 0, 1) := by decide +kernel
theorem dX10_sumOf_1 : decode cX10_sumOf 1 = .ok (.istore_n 2, 1) := by decide +kernel
theorem dX10_sumOf_2 : decode cX10_sumOf 2 = .ok (.iconst 0, 1) := by decide +kernel
theorem dX10_sumOf_3 : decode cX10_sumOf 3 = .ok (.istore_n 3, 1) := by decide +kernel
theorem dX10_sumOf_4 : decode cX10_sumOf 4 = .ok (.iload_n 3, 1) := by decide +kernel
theorem dX10_sumOf_5 : decode cX10_sumOf 5 = .ok (.aload_n 0, 1) := by decide +kernel
theorem dX10_sumOf_6 : decode cX10_sumOf 6 = .ok (.getfield 32, 3) := by decide +kernel
theorem dX10_sumOf_9 : decode cX10_sumOf 9 = .ok (.getfield 74, 3) := by decide +kernel
theorem dX10_sumOf_12 : decode cX10_sumOf 12 = .ok (.if_icmp .ge 26, 3) := by decide +kernel
theorem dX10_sumOf_15 : decode cX10_sumOf 15 = .ok (.iload_n 1, 1) := by decide +kernel
theorem dX10_sumOf_16 : decode cX10_sumOf 16 = .ok (.iload_n 3, 1) := by decide +kernel
theorem dX10_sumOf_17 : decode cX10_sumOf 17 = .ok (.invokestatic 56, 3) := by decide +kernel
theorem dX10_sumOf_20 : decode cX10_sumOf 20 = .ok (.ifCond .eq 12, 3) := by decide +kernel
theorem dX10_sumOf_23 : decode cX10_sumOf 23 = .ok (.iload_n 2, 1) := by decide +kernel
theorem dX10_sumOf_24 : decode cX10_sumOf 24 = .ok (.aload_n 0, 1) := by decide +kernel
theorem dX10_sumOf_25 : decode cX10_sumOf 25 = .ok (.getfield 18, 3) := by decide +kernel
theorem dX10_sumOf_28 : decode cX10_sumOf 28 = .ok (.iload_n 3, 1) := by decide +kernel
theorem dX10_sumOf_29 : decode cX10_sumOf 29 = .ok (.iaload, 1) := by decide +kernel
theorem dX10_sumOf_30 : decode cX10_sumOf 30 = .ok (.iadd, 1) := by decide +kernel
theorem dX10_sumOf_31 : decode cX10_sumOf 31 = .ok (.istore_n 2, 1) := by decide +kernel
theorem dX10_sumOf_32 : decode cX10_sumOf 32 = .ok (.iinc 3 1, 3) := by decide +kernel
theorem dX10_sumOf_35 : decode cX10_sumOf 35 = .ok (.goto (-31), 3) := by decide +kernel
theorem dX10_sumOf_38 : decode cX10_sumOf 38 = .ok (.iload_n 2, 1) := by decide +kernel
theorem dX10_sumOf_39 : decode cX10_sumOf 39 = .ok (.ireturn, 1) := by decide +kernel
theorem dX10_miss_0 : decode cX10_miss 0 = .ok (.iconst 0, 1) := by decide +kernel
theorem dX10_miss_1 : decode cX10_miss 1 = .ok (.istore_n 1, 1) := by decide +kernel
theorem dX10_miss_2 : decode cX10_miss 2 = .ok (.iconst 0, 1) := by decide +kernel
theorem dX10_miss_3 : decode cX10_miss 3 = .ok (.istore_n 2, 1) := by decide +kernel
theorem dX10_miss_4 : decode cX10_miss 4 = .ok (.iload_n 2, 1) := by decide +kernel
theorem dX10_miss_5 : decode cX10_miss 5 = .ok (.iconst 4, 1) := by decide +kernel
theorem dX10_miss_6 : decode cX10_miss 6 = .ok (.if_icmp .ge 35, 3) := by decide +kernel
theorem dX10_miss_9 : decode cX10_miss 9 = .ok (.iload_n 1, 1) := by decide +kernel
theorem dX10_miss_10 : decode cX10_miss 10 = .ok (.aload_n 0, 1) := by decide +kernel
theorem dX10_miss_11 : decode cX10_miss 11 = .ok (.aload_n 0, 1) := by decide +kernel
theorem dX10_miss_12 : decode cX10_miss 12 = .ok (.getfield 32, 3) := by decide +kernel
theorem dX10_miss_15 : decode cX10_miss 15 = .ok (.getfield 46, 3) := by decide +kernel
theorem dX10_miss_18 : decode cX10_miss 18 = .ok (.iload_n 2, 1) := by decide +kernel
theorem dX10_miss_19 : decode cX10_miss 19 = .ok (.iaload, 1) := by decide +kernel
theorem dX10_miss_20 : decode cX10_miss 20 = .ok (.invokevirtual 70, 3) := by decide +kernel
theorem dX10_miss_23 : decode cX10_miss 23 = .ok (.aload_n 0, 1) := by decide +kernel
theorem dX10_miss_24 : decode cX10_miss 24 = .ok (.getfield 9, 3) := by decide +kernel
theorem dX10_miss_27 : decode cX10_miss 27 = .ok (.iload_n 2, 1) := by decide +kernel
theorem dX10_miss_28 : decode cX10_miss 28 = .ok (.iaload, 1) := by decide +kernel
theorem dX10_miss_29 : decode cX10_miss 29 = .ok (.isub, 1) := by decide +kernel
theorem dX10_miss_30 : decode cX10_miss 30 = .ok (.invokestatic 83, 3) := by decide +kernel
theorem dX10_miss_33 : decode cX10_miss 33 = .ok (.iadd, 1) := by decide +kernel
theorem dX10_miss_34 : decode cX10_miss 34 = .ok (.istore_n 1, 1) := by decide +kernel
theorem dX10_miss_35 : decode cX10_miss 35 = .ok (.iinc 2 1, 3) := by decide +kernel
theorem dX10_miss_38 : decode cX10_miss 38 = .ok (.goto (-34), 3) := by decide +kernel
theorem dX10_miss_41 : decode cX10_miss 41 = .ok (.iconst 0, 1) := by decide +kernel
theorem dX10_miss_42 : decode cX10_miss 42 = .ok (.istore_n 2, 1) := by decide +kernel
theorem dX10_miss_43 : decode cX10_miss 43 = .ok (.iload_n 2, 1) := by decide +kernel
theorem dX10_miss_44 : decode cX10_miss 44 = .ok (.iconst 3, 1) := by decide +kernel
theorem dX10_miss_45 : decode cX10_miss 45 = .ok (.if_icmp .ge 35, 3) := by decide +kernel
theorem dX10_miss_48 : decode cX10_miss 48 = .ok (.iload_n 1, 1) := by decide +kernel
theorem dX10_miss_49 : decode cX10_miss 49 = .ok (.aload_n 0, 1) := by decide +kernel
theorem dX10_miss_50 : decode cX10_miss 50 = .ok (.aload_n 0, 1) := by decide +kernel
theorem dX10_miss_51 : decode cX10_miss 51 = .ok (.getfield 32, 3) := by decide +kernel
theorem dX10_miss_54 : decode cX10_miss 54 = .ok (.getfield 53, 3) := by decide +kernel
theorem dX10_miss_57 : decode cX10_miss 57 = .ok (.iload_n 2, 1) := by decide +kernel
theorem dX10_miss_58 : decode cX10_miss 58 = .ok (.iaload, 1) := by decide +kernel
theorem dX10_miss_59 : decode cX10_miss 59 = .ok (.invokevirtual 70, 3) := by decide +kernel
theorem dX10_miss_62 : decode cX10_miss 62 = .ok (.aload_n 0, 1) := by decide +kernel
theorem dX10_miss_63 : decode cX10_miss 63 = .ok (.getfield 15, 3) := by decide +kernel
theorem dX10_miss_66 : decode cX10_miss 66 = .ok (.iload_n 2, 1) := by decide +kernel
theorem dX10_miss_67 : decode cX10_miss 67 = .ok (.iaload, 1) := by decide +kernel
theorem dX10_miss_68 : decode cX10_miss 68 = .ok (.isub, 1) := by decide +kernel
theorem dX10_miss_69 : decode cX10_miss 69 = .ok (.invokestatic 83, 3) := by decide +kernel
theorem dX10_miss_72 : decode cX10_miss 72 = .ok (.iadd, 1) := by decide +kernel
theorem dX10_miss_73 : decode cX10_miss 73 = .ok (.istore_n 1, 1) := by decide +kernel
theorem dX10_miss_74 : decode cX10_miss 74 = .ok (.iinc 2 1, 3) := by decide +kernel
theorem dX10_miss_77 : decode cX10_miss 77 = .ok (.goto (-34), 3) := by decide +kernel
theorem dX10_miss_80 : decode cX10_miss 80 = .ok (.iload_n 1, 1) := by decide +kernel
theorem dX10_miss_81 : decode cX10_miss 81 = .ok (.ireturn, 1) := by decide +kernel
theorem dX10_ledSum_0 : decode cX10_ledSum 0 = .ok (.lconst 0, 1) := by decide +kernel
theorem dX10_ledSum_1 : decode cX10_ledSum 1 = .ok (.lstore_n 1, 1) := by decide +kernel
theorem dX10_ledSum_2 : decode cX10_ledSum 2 = .ok (.iconst 0, 1) := by decide +kernel
theorem dX10_ledSum_3 : decode cX10_ledSum 3 = .ok (.istore_n 3, 1) := by decide +kernel
theorem dX10_ledSum_4 : decode cX10_ledSum 4 = .ok (.iload_n 3, 1) := by decide +kernel
theorem dX10_ledSum_5 : decode cX10_ledSum 5 = .ok (.aload_n 0, 1) := by decide +kernel
theorem dX10_ledSum_6 : decode cX10_ledSum 6 = .ok (.getfield 32, 3) := by decide +kernel
theorem dX10_ledSum_9 : decode cX10_ledSum 9 = .ok (.getfield 74, 3) := by decide +kernel
theorem dX10_ledSum_12 : decode cX10_ledSum 12 = .ok (.if_icmp .ge 39, 3) := by decide +kernel
theorem dX10_ledSum_15 : decode cX10_ledSum 15 = .ok (.aload_n 0, 1) := by decide +kernel
theorem dX10_ledSum_16 : decode cX10_ledSum 16 = .ok (.getfield 18, 3) := by decide +kernel
theorem dX10_ledSum_19 : decode cX10_ledSum 19 = .ok (.iload_n 3, 1) := by decide +kernel
theorem dX10_ledSum_20 : decode cX10_ledSum 20 = .ok (.iaload, 1) := by decide +kernel
theorem dX10_ledSum_21 : decode cX10_ledSum 21 = .ok (.ifCond .le 24, 3) := by decide +kernel
theorem dX10_ledSum_24 : decode cX10_ledSum 24 = .ok (.lload_n 1, 1) := by decide +kernel
theorem dX10_ledSum_25 : decode cX10_ledSum 25 = .ok (.aload_n 0, 1) := by decide +kernel
theorem dX10_ledSum_26 : decode cX10_ledSum 26 = .ok (.getfield 18, 3) := by decide +kernel
theorem dX10_ledSum_29 : decode cX10_ledSum 29 = .ok (.iload_n 3, 1) := by decide +kernel
theorem dX10_ledSum_30 : decode cX10_ledSum 30 = .ok (.iaload, 1) := by decide +kernel
theorem dX10_ledSum_31 : decode cX10_ledSum 31 = .ok (.i2l, 1) := by decide +kernel
theorem dX10_ledSum_32 : decode cX10_ledSum 32 = .ok (.aload_n 0, 1) := by decide +kernel
theorem dX10_ledSum_33 : decode cX10_ledSum 33 = .ok (.getfield 32, 3) := by decide +kernel
theorem dX10_ledSum_36 : decode cX10_ledSum 36 = .ok (.getfield 88, 3) := by decide +kernel
theorem dX10_ledSum_39 : decode cX10_ledSum 39 = .ok (.iload_n 3, 1) := by decide +kernel
theorem dX10_ledSum_40 : decode cX10_ledSum 40 = .ok (.iaload, 1) := by decide +kernel
theorem dX10_ledSum_41 : decode cX10_ledSum 41 = .ok (.i2l, 1) := by decide +kernel
theorem dX10_ledSum_42 : decode cX10_ledSum 42 = .ok (.lmul, 1) := by decide +kernel
theorem dX10_ledSum_43 : decode cX10_ledSum 43 = .ok (.ladd, 1) := by decide +kernel
theorem dX10_ledSum_44 : decode cX10_ledSum 44 = .ok (.lstore_n 1, 1) := by decide +kernel
theorem dX10_ledSum_45 : decode cX10_ledSum 45 = .ok (.iinc 3 1, 3) := by decide +kernel
theorem dX10_ledSum_48 : decode cX10_ledSum 48 = .ok (.goto (-44), 3) := by decide +kernel
theorem dX10_ledSum_51 : decode cX10_ledSum 51 = .ok (.lload_n 1, 1) := by decide +kernel
theorem dX10_ledSum_52 : decode cX10_ledSum 52 = .ok (.ldc2_w 91, 3) := by decide +kernel
theorem dX10_ledSum_55 : decode cX10_ledSum 55 = .ok (.ldiv, 1) := by decide +kernel
theorem dX10_ledSum_56 : decode cX10_ledSum 56 = .ok (.l2i, 1) := by decide +kernel
theorem dX10_ledSum_57 : decode cX10_ledSum 57 = .ok (.ireturn, 1) := by decide +kernel
theorem dX11_init_0 : decode cX11_init 0 = .ok (.aload_n 0, 1) := by decide +kernel
theorem dX11_init_1 : decode cX11_init 1 = .ok (.invokespecial 1, 3) := by decide +kernel
theorem dX11_init_4 : decode cX11_init 4 = .ok (.aload_n 0, 1) := by decide +kernel
theorem dX11_init_5 : decode cX11_init 5 = .ok (.new 7, 3) := by decide +kernel
theorem dX11_init_8 : decode cX11_init 8 = .ok (.dup, 1) := by decide +kernel
theorem dX11_init_9 : decode cX11_init 9 = .ok (.invokespecial 9, 3) := by decide +kernel
theorem dX11_init_12 : decode cX11_init 12 = .ok (.putfield 10, 3) := by decide +kernel
theorem dX11_init_15 : decode cX11_init 15 = .ok (.aload_n 0, 1) := by decide +kernel
theorem dX11_init_16 : decode cX11_init 16 = .ok (.new 16, 3) := by decide +kernel
theorem dX11_init_19 : decode cX11_init 19 = .ok (.dup, 1) := by decide +kernel
theorem dX11_init_20 : decode cX11_init 20 = .ok (.aload_n 0, 1) := by decide +kernel
theorem dX11_init_21 : decode cX11_init 21 = .ok (.getfield 10, 3) := by decide +kernel
theorem dX11_init_24 : decode cX11_init 24 = .ok (.invokespecial 18, 3) := by decide +kernel
theorem dX11_init_27 : decode cX11_init 27 = .ok (.putfield 21, 3) := by decide +kernel
theorem dX11_init_30 : decode cX11_init 30 = .ok (.aload_n 0, 1) := by decide +kernel
theorem dX11_init_31 : decode cX11_init 31 = .ok (.iconst 4, 1) := by decide +kernel
theorem dX11_init_32 : decode cX11_init 32 = .ok (.anewarray 25, 3) := by decide +kernel
theorem dX11_init_35 : decode cX11_init 35 = .ok (.putfield 27, 3) := by decide +kernel
theorem dX11_init_38 : decode cX11_init 38 = .ok (.aload_n 0, 1) := by decide +kernel
theorem dX11_init_39 : decode cX11_init 39 = .ok (.iconst 4, 1) := by decide +kernel
theorem dX11_init_40 : decode cX11_init 40 = .ok (.anewarray 31, 3) := by decide +kernel
theorem dX11_init_43 : decode cX11_init 43 = .ok (.putfield 33, 3) := by decide +kernel
theorem dX11_init_46 : decode cX11_init 46 = .ok (.aload_n 0, 1) := by decide +kernel
theorem dX11_init_47 : decode cX11_init 47 = .ok (.new 37, 3) := by decide +kernel
theorem dX11_init_50 : decode cX11_init 50 = .ok (.dup, 1) := by decide +kernel
theorem dX11_init_51 : decode cX11_init 51 = .ok (.aload_n 0, 1) := by decide +kernel
theorem dX11_init_52 : decode cX11_init 52 = .ok (.getfield 10, 3) := by decide +kernel
theorem dX11_init_55 : decode cX11_init 55 = .ok (.invokespecial 39, 3) := by decide +kernel
theorem dX11_init_58 : decode cX11_init 58 = .ok (.putfield 40, 3) := by decide +kernel
theorem dX11_init_61 : decode cX11_init 61 = .ok (.aload_n 0, 1) := by decide +kernel
theorem dX11_init_62 : decode cX11_init 62 = .ok (.new 44, 3) := by decide +kernel
theorem dX11_init_65 : decode cX11_init 65 = .ok (.dup, 1) := by decide +kernel
theorem dX11_init_66 : decode cX11_init 66 = .ok (.aload_n 0, 1) := by decide +kernel
theorem dX11_init_67 : decode cX11_init 67 = .ok (.getfield 10, 3) := by decide +kernel
theorem dX11_init_70 : decode cX11_init 70 = .ok (.invokespecial 46, 3) := by decide +kernel
theorem dX11_init_73 : decode cX11_init 73 = .ok (.putfield 47, 3) := by decide +kernel
theorem dX11_init_76 : decode cX11_init 76 = .ok (.aload_n 0, 1) := by decide +kernel
theorem dX11_init_77 : decode cX11_init 77 = .ok (.new 51, 3) := by decide +kernel
theorem dX11_init_80 : decode cX11_init 80 = .ok (.dup, 1) := by decide +kernel
theorem dX11_init_81 : decode cX11_init 81 = .ok (.invokespecial 53, 3) := by decide +kernel
theorem dX11_init_84 : decode cX11_init 84 = .ok (.putfield 54, 3) := by decide +kernel
theorem dX11_init_87 : decode cX11_init 87 = .ok (.aload_n 0, 1) := by decide +kernel
theorem dX11_init_88 : decode cX11_init 88 = .ok (.new 51, 3) := by decide +kernel
theorem dX11_init_91 : decode cX11_init 91 = .ok (.dup, 1) := by decide +kernel
theorem dX11_init_92 : decode cX11_init 92 = .ok (.invokespecial 53, 3) := by decide +kernel
theorem dX11_init_95 : decode cX11_init 95 = .ok (.putfield 58, 3) := by decide +kernel
theorem dX11_init_98 : decode cX11_init 98 = .ok (.iconst 0, 1) := by decide +kernel
theorem dX11_init_99 : decode cX11_init 99 = .ok (.istore_n 1, 1) := by decide +kernel
theorem dX11_init_100 : decode cX11_init 100 = .ok (.iload_n 1, 1) := by decide +kernel
theorem dX11_init_101 : decode cX11_init 101 = .ok (.iconst 4, 1) := by decide +kernel
theorem dX11_init_102 : decode cX11_init 102 = .ok (.if_icmp .ge 26, 3) := by decide +kernel
theorem dX11_init_105 : decode cX11_init 105 = .ok (.aload_n 0, 1) := by decide +kernel
theorem dX11_init_106 : decode cX11_init 106 = .ok (.getfield 27, 3) := by decide +kernel
theorem dX11_init_109 : decode cX11_init 109 = .ok (.iload_n 1, 1) := by decide +kernel
theorem dX11_init_110 : decode cX11_init 110 = .ok (.new 25, 3) := by decide +kernel
theorem dX11_init_113 : decode cX11_init 113 = .ok (.dup, 1) := by decide +kernel
theorem dX11_init_114 : decode cX11_init 114 = .ok (.aload_n 0, 1) := by decide +kernel
theorem dX11_init_115 : decode cX11_init 115 = .ok (.getfield 10, 3) := by decide +kernel
theorem dX11_init_118 : decode cX11_init 118 = .ok (.invokespecial 61, 3) := by decide +kernel
theorem dX11_init_121 : decode cX11_init 121 = .ok (.aastore, 1) := by decide +kernel
theorem dX11_init_122 : decode cX11_init 122 = .ok (.iinc 1 1, 3) := by decide +kernel
theorem dX11_init_125 : decode cX11_init 125 = .ok (.goto (-25), 3) := by decide +kernel
theorem dX11_init_128 : decode cX11_init 128 = .ok (.iconst 0, 1) := by decide +kernel
theorem dX11_init_129 : decode cX11_init 129 = .ok (.istore_n 1, 1) := by decide +kernel
theorem dX11_init_130 : decode cX11_init 130 = .ok (.iload_n 1, 1) := by decide +kernel
theorem dX11_init_131 : decode cX11_init 131 = .ok (.iconst 4, 1) := by decide +kernel
theorem dX11_init_132 : decode cX11_init 132 = .ok (.if_icmp .ge 22, 3) := by decide +kernel
theorem dX11_init_135 : decode cX11_init 135 = .ok (.aload_n 0, 1) := by decide +kernel
theorem dX11_init_136 : decode cX11_init 136 = .ok (.getfield 33, 3) := by decide +kernel
theorem dX11_init_139 : decode cX11_init 139 = .ok (.iload_n 1, 1) := by decide +kernel
theorem dX11_init_140 : decode cX11_init 140 = .ok (.new 31, 3) := by decide +kernel
theorem dX11_init_143 : decode cX11_init 143 = .ok (.dup, 1) := by decide +kernel
theorem dX11_init_144 : decode cX11_init 144 = .ok (.invokespecial 62, 3) := by decide +kernel
theorem dX11_init_147 : decode cX11_init 147 = .ok (.aastore, 1) := by decide +kernel
theorem dX11_init_148 : decode cX11_init 148 = .ok (.iinc 1 1, 3) := by decide +kernel
theorem dX11_init_151 : decode cX11_init 151 = .ok (.goto (-21), 3) := by decide +kernel
theorem dX11_init_154 : decode cX11_init 154 = .ok (.return_, 1) := by decide +kernel
theorem dX11_name_0 : decode cX11_name 0 = .ok (.aload_n 0, 1) := by decide +kernel
theorem dX11_name_1 : decode cX11_name 1 = .ok (.getfield 10, 3) := by decide +kernel
theorem dX11_name_4 : decode cX11_name 4 = .ok (.iload_n 1, 1) := by decide +kernel
theorem dX11_name_5 : decode cX11_name 5 = .ok (.iload_n 2, 1) := by decide +kernel
theorem dX11_name_6 : decode cX11_name 6 = .ok (.iload_n 3, 1) := by decide +kernel
theorem dX11_name_7 : decode cX11_name 7 = .ok (.iload 4, 2) := by decide +kernel
theorem dX11_name_9 : decode cX11_name 9 = .ok (.invokevirtual 63, 3) := by decide +kernel
theorem dX11_name_12 : decode cX11_name 12 = .ok (.ireturn, 1) := by decide +kernel
theorem dX11_read_0 : decode cX11_read 0 = .ok (.iload_n 1, 1) := by decide +kernel
theorem dX11_read_1 : decode cX11_read 1 = .ok (.invokestatic 67, 3) := by decide +kernel
theorem dX11_read_4 : decode cX11_read 4 = .ok (.ifCond .ne 6, 3) := by decide +kernel
theorem dX11_read_7 : decode cX11_read 7 = .ok (.bipush (-2), 2) := by decide +kernel
theorem dX11_read_9 : decode cX11_read 9 = .ok (.ireturn, 1) := by decide +kernel
theorem dX11_read_10 : decode cX11_read 10 = .ok (.aload_n 0, 1) := by decide +kernel
theorem dX11_read_11 : decode cX11_read 11 = .ok (.getfield 33, 3) := by decide +kernel
theorem dX11_read_14 : decode cX11_read 14 = .ok (.iload_n 1, 1) := by decide +kernel
theorem dX11_read_15 : decode cX11_read 15 = .ok (.aaload, 1) := by decide +kernel
theorem dX11_read_16 : decode cX11_read 16 = .ok (.astore_n 2, 1) := by decide +kernel
theorem dX11_read_17 : decode cX11_read 17 = .ok (.aload_n 2, 1) := by decide +kernel
theorem dX11_read_18 : decode cX11_read 18 = .ok (.getfield 71, 3) := by decide +kernel
theorem dX11_read_21 : decode cX11_read 21 = .ok (.ifCond .eq 9, 3) := by decide +kernel
theorem dX11_read_24 : decode cX11_read 24 = .ok (.aload_n 0, 1) := by decide +kernel
theorem dX11_read_25 : decode cX11_read 25 = .ok (.iconst 1, 1) := by decide +kernel
theorem dX11_read_26 : decode cX11_read 26 = .ok (.invokevirtual 75, 3) := by decide +kernel
theorem dX11_read_29 : decode cX11_read 29 = .ok (.ireturn, 1) := by decide +kernel
theorem dX11_read_30 : decode cX11_read 30 = .ok (.iconst 0, 1) := by decide +kernel
theorem dX11_read_31 : decode cX11_read 31 = .ok (.istore_n 3, 1) := by decide +kernel
theorem dX11_read_32 : decode cX11_read 32 = .ok (.iconst 0, 1) := by decide +kernel
theorem dX11_read_33 : decode cX11_read 33 = .ok (.istore 4, 2) := by decide +kernel
theorem dX11_read_35 : decode cX11_read 35 = .ok (.iload 4, 2) := by decide +kernel
theorem dX11_read_37 : decode cX11_read 37 = .ok (.iconst 3, 1) := by decide +kernel
theorem dX11_read_38 : decode cX11_read 38 = .ok (.iadd, 1) := by decide +kernel
theorem dX11_read_39 : decode cX11_read 39 = .ok (.aload_n 2, 1) := by decide +kernel
theorem dX11_read_40 : decode cX11_read 40 = .ok (.getfield 79, 3) := by decide +kernel
theorem dX11_read_43 : decode cX11_read 43 = .ok (.if_icmp .ge 63, 3) := by decide +kernel
theorem dX11_read_46 : decode cX11_read 46 = .ok (.aload_n 0, 1) := by decide +kernel
theorem dX11_read_47 : decode cX11_read 47 = .ok (.getfield 10, 3) := by decide +kernel
theorem dX11_read_50 : decode cX11_read 50 = .ok (.aload_n 2, 1) := by decide +kernel
theorem dX11_read_51 : decode cX11_read 51 = .ok (.getfield 83, 3) := by decide +kernel
theorem dX11_read_54 : decode cX11_read 54 = .ok (.iload 4, 2) := by decide +kernel
theorem dX11_read_56 : decode cX11_read 56 = .ok (.iaload, 1) := by decide +kernel
theorem dX11_read_57 : decode cX11_read 57 = .ok (.aload_n 2, 1) := by decide +kernel
theorem dX11_read_58 : decode cX11_read 58 = .ok (.getfield 83, 3) := by decide +kernel
theorem dX11_read_61 : decode cX11_read 61 = .ok (.iload 4, 2) := by decide +kernel
theorem dX11_read_63 : decode cX11_read 63 = .ok (.iconst 1, 1) := by decide +kernel
theorem dX11_read_64 : decode cX11_read 64 = .ok (.iadd, 1) := by decide +kernel
theorem dX11_read_65 : decode cX11_read 65 = .ok (.iaload, 1) := by decide +kernel
theorem dX11_read_66 : decode cX11_read 66 = .ok (.aload_n 2, 1) := by decide +kernel
theorem dX11_read_67 : decode cX11_read 67 = .ok (.getfield 83, 3) := by decide +kernel
theorem dX11_read_70 : decode cX11_read 70 = .ok (.iload 4, 2) := by decide +kernel
theorem dX11_read_72 : decode cX11_read 72 = .ok (.iconst 2, 1) := by decide +kernel
theorem dX11_read_73 : decode cX11_read 73 = .ok (.iadd, 1) := by decide +kernel
theorem dX11_read_74 : decode cX11_read 74 = .ok (.iaload, 1) := by decide +kernel
theorem dX11_read_75 : decode cX11_read 75 = .ok (.aload_n 2, 1) := by decide +kernel
theorem dX11_read_76 : decode cX11_read 76 = .ok (.getfield 83, 3) := by decide +kernel
theorem dX11_read_79 : decode cX11_read 79 = .ok (.iload 4, 2) := by decide +kernel
theorem dX11_read_81 : decode cX11_read 81 = .ok (.iconst 3, 1) := by decide +kernel
theorem dX11_read_82 : decode cX11_read 82 = .ok (.iadd, 1) := by decide +kernel
theorem dX11_read_83 : decode cX11_read 83 = .ok (.iaload, 1) := by decide +kernel
theorem dX11_read_84 : decode cX11_read 84 = .ok (.invokevirtual 63, 3) := by decide +kernel
theorem dX11_read_87 : decode cX11_read 87 = .ok (.istore 5, 2) := by decide +kernel
theorem dX11_read_89 : decode cX11_read 89 = .ok (.iload 5, 2) := by decide +kernel
theorem dX11_read_91 : decode cX11_read 91 = .ok (.ifCond .ge 6, 3) := by decide +kernel
theorem dX11_read_94 : decode cX11_read 94 = .ok (.goto 12, 3) := by decide +kernel
theorem dX11_read_97 : decode cX11_read 97 = .ok (.iinc 3 1, 3) := by decide +kernel
theorem dX11_read_100 : decode cX11_read 100 = .ok (.iinc 4 4, 3) := by decide +kernel
theorem dX11_read_103 : decode cX11_read 103 = .ok (.goto (-68), 3) := by decide +kernel
theorem dX11_read_106 : decode cX11_read 106 = .ok (.iload_n 3, 1) := by decide +kernel
theorem dX11_read_107 : decode cX11_read 107 = .ok (.ireturn, 1) := by decide +kernel
theorem dX11_about_0 : decode cX11_about 0 = .ok (.aload_n 0, 1) := by decide +kernel
theorem dX11_about_1 : decode cX11_about 1 = .ok (.getfield 10, 3) := by decide +kernel
theorem dX11_about_4 : decode cX11_about 4 = .ok (.iload_n 1, 1) := by decide +kernel
theorem dX11_about_5 : decode cX11_about 5 = .ok (.invokevirtual 87, 3) := by decide +kernel
theorem dX11_about_8 : decode cX11_about 8 = .ok (.ifCond .ne 6, 3) := by decide +kernel
theorem dX11_about_11 : decode cX11_about 11 = .ok (.bipush (-2), 2) := by decide +kernel
theorem dX11_about_13 : decode cX11_about 13 = .ok (.ireturn, 1) := by decide +kernel
theorem dX11_about_14 : decode cX11_about 14 = .ok (.iload_n 2, 1) := by decide +kernel
theorem dX11_about_15 : decode cX11_about 15 = .ok (.tableswitch 83 0 4 #[33, 43, 53, 63, 73], 33) := by decide +kernel
theorem dX11_about_48 : decode cX11_about 48 = .ok (.aload_n 0, 1) := by decide +kernel
theorem dX11_about_49 : decode cX11_about 49 = .ok (.getfield 10, 3) := by decide +kernel
theorem dX11_about_52 : decode cX11_about 52 = .ok (.getfield 90, 3) := by decide +kernel
theorem dX11_about_55 : decode cX11_about 55 = .ok (.iload_n 1, 1) := by decide +kernel
theorem dX11_about_56 : decode cX11_about 56 = .ok (.iaload, 1) := by decide +kernel
theorem dX11_about_57 : decode cX11_about 57 = .ok (.ireturn, 1) := by decide +kernel
theorem dX11_about_58 : decode cX11_about 58 = .ok (.aload_n 0, 1) := by decide +kernel
theorem dX11_about_59 : decode cX11_about 59 = .ok (.getfield 10, 3) := by decide +kernel
theorem dX11_about_62 : decode cX11_about 62 = .ok (.getfield 93, 3) := by decide +kernel
theorem dX11_about_65 : decode cX11_about 65 = .ok (.iload_n 1, 1) := by decide +kernel
theorem dX11_about_66 : decode cX11_about 66 = .ok (.iaload, 1) := by decide +kernel
theorem dX11_about_67 : decode cX11_about 67 = .ok (.ireturn, 1) := by decide +kernel
theorem dX11_about_68 : decode cX11_about 68 = .ok (.aload_n 0, 1) := by decide +kernel
theorem dX11_about_69 : decode cX11_about 69 = .ok (.getfield 10, 3) := by decide +kernel
theorem dX11_about_72 : decode cX11_about 72 = .ok (.getfield 96, 3) := by decide +kernel
theorem dX11_about_75 : decode cX11_about 75 = .ok (.iload_n 1, 1) := by decide +kernel
theorem dX11_about_76 : decode cX11_about 76 = .ok (.iaload, 1) := by decide +kernel
theorem dX11_about_77 : decode cX11_about 77 = .ok (.ireturn, 1) := by decide +kernel
theorem dX11_about_78 : decode cX11_about 78 = .ok (.aload_n 0, 1) := by decide +kernel
theorem dX11_about_79 : decode cX11_about 79 = .ok (.getfield 10, 3) := by decide +kernel
theorem dX11_about_82 : decode cX11_about 82 = .ok (.getfield 99, 3) := by decide +kernel
theorem dX11_about_85 : decode cX11_about 85 = .ok (.iload_n 1, 1) := by decide +kernel
theorem dX11_about_86 : decode cX11_about 86 = .ok (.iaload, 1) := by decide +kernel
theorem dX11_about_87 : decode cX11_about 87 = .ok (.ireturn, 1) := by decide +kernel
theorem dX11_about_88 : decode cX11_about 88 = .ok (.aload_n 0, 1) := by decide +kernel
theorem dX11_about_89 : decode cX11_about 89 = .ok (.getfield 10, 3) := by decide +kernel
theorem dX11_about_92 : decode cX11_about 92 = .ok (.getfield 102, 3) := by decide +kernel
theorem dX11_about_95 : decode cX11_about 95 = .ok (.iload_n 1, 1) := by decide +kernel
theorem dX11_about_96 : decode cX11_about 96 = .ok (.iaload, 1) := by decide +kernel
theorem dX11_about_97 : decode cX11_about 97 = .ok (.ireturn, 1) := by decide +kernel
theorem dX11_about_98 : decode cX11_about 98 = .ok (.bipush (-2), 2) := by decide +kernel
theorem dX11_about_100 : decode cX11_about 100 = .ok (.ireturn, 1) := by decide +kernel
theorem dX11_answer_0 : decode cX11_answer 0 = .ok (.aload_n 0, 1) := by decide +kernel
theorem dX11_answer_1 : decode cX11_answer 1 = .ok (.getfield 10, 3) := by decide +kernel
theorem dX11_answer_4 : decode cX11_answer 4 = .ok (.iload_n 1, 1) := by decide +kernel
theorem dX11_answer_5 : decode cX11_answer 5 = .ok (.invokevirtual 87, 3) := by decide +kernel
theorem dX11_answer_8 : decode cX11_answer 8 = .ok (.ifCond .eq 25, 3) := by decide +kernel
theorem dX11_answer_11 : decode cX11_answer 11 = .ok (.iload_n 2, 1) := by decide +kernel
theorem dX11_answer_12 : decode cX11_answer 12 = .ok (.iconst (-1), 1) := by decide +kernel
theorem dX11_answer_13 : decode cX11_answer 13 = .ok (.sipush 10000, 3) := by decide +kernel
theorem dX11_answer_16 : decode cX11_answer 16 = .ok (.invokestatic 105, 3) := by decide +kernel
theorem dX11_answer_19 : decode cX11_answer 19 = .ok (.ifCond .eq 14, 3) := by decide +kernel
theorem dX11_answer_22 : decode cX11_answer 22 = .ok (.iload_n 3, 1) := by decide +kernel
theorem dX11_answer_23 : decode cX11_answer 23 = .ok (.iconst 0, 1) := by decide +kernel
theorem dX11_answer_24 : decode cX11_answer 24 = .ok (.sipush 399, 3) := by decide +kernel
theorem dX11_answer_27 : decode cX11_answer 27 = .ok (.invokestatic 105, 3) := by decide +kernel
theorem dX11_answer_30 : decode cX11_answer 30 = .ok (.ifCond .ne 6, 3) := by decide +kernel
theorem dX11_answer_33 : decode cX11_answer 33 = .ok (.bipush (-2), 2) := by decide +kernel
theorem dX11_answer_35 : decode cX11_answer 35 = .ok (.ireturn, 1) := by decide +kernel
theorem dX11_answer_36 : decode cX11_answer 36 = .ok (.aload_n 0, 1) := by decide +kernel
theorem dX11_answer_37 : decode cX11_answer 37 = .ok (.getfield 21, 3) := by decide +kernel
theorem dX11_answer_40 : decode cX11_answer 40 = .ok (.iload_n 1, 1) := by decide +kernel
theorem dX11_answer_41 : decode cX11_answer 41 = .ok (.iload_n 2, 1) := by decide +kernel
theorem dX11_answer_42 : decode cX11_answer 42 = .ok (.iload_n 3, 1) := by decide +kernel
theorem dX11_answer_43 : decode cX11_answer 43 = .ok (.invokevirtual 109, 3) := by decide +kernel
theorem dX11_answer_46 : decode cX11_answer 46 = .ok (.ireturn, 1) := by decide +kernel
theorem dX11_asOf_0 : decode cX11_asOf 0 = .ok (.iload_n 1, 1) := by decide +kernel
theorem dX11_asOf_1 : decode cX11_asOf 1 = .ok (.iconst 0, 1) := by decide +kernel
theorem dX11_asOf_2 : decode cX11_asOf 2 = .ok (.sipush 399, 3) := by decide +kernel
theorem dX11_asOf_5 : decode cX11_asOf 5 = .ok (.invokestatic 105, 3) := by decide +kernel
theorem dX11_asOf_8 : decode cX11_asOf 8 = .ok (.ifCond .ne 6, 3) := by decide +kernel
theorem dX11_asOf_11 : decode cX11_asOf 11 = .ok (.bipush (-2), 2) := by decide +kernel
theorem dX11_asOf_13 : decode cX11_asOf 13 = .ok (.ireturn, 1) := by decide +kernel
theorem dX11_asOf_14 : decode cX11_asOf 14 = .ok (.aload_n 0, 1) := by decide +kernel
theorem dX11_asOf_15 : decode cX11_asOf 15 = .ok (.getfield 21, 3) := by decide +kernel
theorem dX11_asOf_18 : decode cX11_asOf 18 = .ok (.iload_n 1, 1) := by decide +kernel
theorem dX11_asOf_19 : decode cX11_asOf 19 = .ok (.invokevirtual 113, 3) := by decide +kernel
theorem dX11_asOf_22 : decode cX11_asOf 22 = .ok (.ireturn, 1) := by decide +kernel
theorem dX11_many_0 : decode cX11_many 0 = .ok (.iload_n 1, 1) := by decide +kernel
theorem dX11_many_1 : decode cX11_many 1 = .ok (.ifCond .ne 25, 3) := by decide +kernel
theorem dX11_many_4 : decode cX11_many 4 = .ok (.iload_n 2, 1) := by decide +kernel
theorem dX11_many_5 : decode cX11_many 5 = .ok (.iconst 0, 1) := by decide +kernel
theorem dX11_many_6 : decode cX11_many 6 = .ok (.iconst 3, 1) := by decide +kernel
theorem dX11_many_7 : decode cX11_many 7 = .ok (.invokestatic 105, 3) := by decide +kernel
theorem dX11_many_10 : decode cX11_many 10 = .ok (.ifCond .eq 16, 3) := by decide +kernel
theorem dX11_many_13 : decode cX11_many 13 = .ok (.aload_n 0, 1) := by decide +kernel
theorem dX11_many_14 : decode cX11_many 14 = .ok (.getfield 10, 3) := by decide +kernel
theorem dX11_many_17 : decode cX11_many 17 = .ok (.getfield 116, 3) := by decide +kernel
theorem dX11_many_20 : decode cX11_many 20 = .ok (.iload_n 2, 1) := by decide +kernel
theorem dX11_many_21 : decode cX11_many 21 = .ok (.iaload, 1) := by decide +kernel
theorem dX11_many_22 : decode cX11_many 22 = .ok (.invokestatic 119, 3) := by decide +kernel
theorem dX11_many_25 : decode cX11_many 25 = .ok (.ireturn, 1) := by decide +kernel
theorem dX11_many_26 : decode cX11_many 26 = .ok (.iload_n 1, 1) := by decide +kernel
theorem dX11_many_27 : decode cX11_many 27 = .ok (.iconst 1, 1) := by decide +kernel
theorem dX11_many_28 : decode cX11_many 28 = .ok (.if_icmp .ne 26, 3) := by decide +kernel
theorem dX11_many_31 : decode cX11_many 31 = .ok (.iload_n 2, 1) := by decide +kernel
theorem dX11_many_32 : decode cX11_many 32 = .ok (.iconst 0, 1) := by decide +kernel
theorem dX11_many_33 : decode cX11_many 33 = .ok (.bipush 7, 2) := by decide +kernel
theorem dX11_many_35 : decode cX11_many 35 = .ok (.invokestatic 105, 3) := by decide +kernel
theorem dX11_many_38 : decode cX11_many 38 = .ok (.ifCond .eq 16, 3) := by decide +kernel
theorem dX11_many_41 : decode cX11_many 41 = .ok (.aload_n 0, 1) := by decide +kernel
theorem dX11_many_42 : decode cX11_many 42 = .ok (.getfield 10, 3) := by decide +kernel
theorem dX11_many_45 : decode cX11_many 45 = .ok (.getfield 124, 3) := by decide +kernel
theorem dX11_many_48 : decode cX11_many 48 = .ok (.iload_n 2, 1) := by decide +kernel
theorem dX11_many_49 : decode cX11_many 49 = .ok (.iaload, 1) := by decide +kernel
theorem dX11_many_50 : decode cX11_many 50 = .ok (.invokestatic 119, 3) := by decide +kernel
theorem dX11_many_53 : decode cX11_many 53 = .ok (.ireturn, 1) := by decide +kernel
theorem dX11_many_54 : decode cX11_many 54 = .ok (.iload_n 1, 1) := by decide +kernel
theorem dX11_many_55 : decode cX11_many 55 = .ok (.iconst 2, 1) := by decide +kernel
theorem dX11_many_56 : decode cX11_many 56 = .ok (.if_icmp .ne 25, 3) := by decide +kernel
theorem dX11_many_59 : decode cX11_many 59 = .ok (.iload_n 2, 1) := by decide +kernel
theorem dX11_many_60 : decode cX11_many 60 = .ok (.iconst 0, 1) := by decide +kernel
theorem dX11_many_61 : decode cX11_many 61 = .ok (.iconst 2, 1) := by decide +kernel
theorem dX11_many_62 : decode cX11_many 62 = .ok (.invokestatic 105, 3) := by decide +kernel
theorem dX11_many_65 : decode cX11_many 65 = .ok (.ifCond .eq 16, 3) := by decide +kernel
theorem dX11_many_68 : decode cX11_many 68 = .ok (.aload_n 0, 1) := by decide +kernel
theorem dX11_many_69 : decode cX11_many 69 = .ok (.getfield 10, 3) := by decide +kernel
theorem dX11_many_72 : decode cX11_many 72 = .ok (.getfield 127, 3) := by decide +kernel
theorem dX11_many_75 : decode cX11_many 75 = .ok (.iload_n 2, 1) := by decide +kernel
theorem dX11_many_76 : decode cX11_many 76 = .ok (.iaload, 1) := by decide +kernel
theorem dX11_many_77 : decode cX11_many 77 = .ok (.invokestatic 119, 3) := by decide +kernel
theorem dX11_many_80 : decode cX11_many 80 = .ok (.ireturn, 1) := by decide +kernel
theorem dX11_many_81 : decode cX11_many 81 = .ok (.iload_n 1, 1) := by decide +kernel
theorem dX11_many_82 : decode cX11_many 82 = .ok (.iconst 3, 1) := by decide +kernel
theorem dX11_many_83 : decode cX11_many 83 = .ok (.if_icmp .ne 15, 3) := by decide +kernel
theorem dX11_many_86 : decode cX11_many 86 = .ok (.iload_n 2, 1) := by decide +kernel
theorem dX11_many_87 : decode cX11_many 87 = .ok (.ifCond .ne 11, 3) := by decide +kernel
theorem dX11_many_90 : decode cX11_many 90 = .ok (.aload_n 0, 1) := by decide +kernel
theorem dX11_many_91 : decode cX11_many 91 = .ok (.getfield 10, 3) := by decide +kernel
theorem dX11_many_94 : decode cX11_many 94 = .ok (.getfield 130, 3) := by decide +kernel
theorem dX11_many_97 : decode cX11_many 97 = .ok (.ireturn, 1) := by decide +kernel
theorem dX11_many_98 : decode cX11_many 98 = .ok (.bipush (-2), 2) := by decide +kernel
theorem dX11_many_100 : decode cX11_many 100 = .ok (.ireturn, 1) := by decide +kernel
theorem dX11_type_0 : decode cX11_type 0 = .ok (.iload_n 1, 1) := by decide +kernel
theorem dX11_type_1 : decode cX11_type 1 = .ok (.invokestatic 133, 3) := by decide +kernel
theorem dX11_type_4 : decode cX11_type 4 = .ok (.ifCond .eq 14, 3) := by decide +kernel
theorem dX11_type_7 : decode cX11_type 7 = .ok (.iload_n 2, 1) := by decide +kernel
theorem dX11_type_8 : decode cX11_type 8 = .ok (.iconst 0, 1) := by decide +kernel
theorem dX11_type_9 : decode cX11_type 9 = .ok (.sipush 255, 3) := by decide +kernel
theorem dX11_type_12 : decode cX11_type 12 = .ok (.invokestatic 105, 3) := by decide +kernel
theorem dX11_type_15 : decode cX11_type 15 = .ok (.ifCond .ne 6, 3) := by decide +kernel
theorem dX11_type_18 : decode cX11_type 18 = .ok (.bipush (-2), 2) := by decide +kernel
theorem dX11_type_20 : decode cX11_type 20 = .ok (.ireturn, 1) := by decide +kernel
theorem dX11_type_21 : decode cX11_type 21 = .ok (.aload_n 0, 1) := by decide +kernel
theorem dX11_type_22 : decode cX11_type 22 = .ok (.getfield 27, 3) := by decide +kernel
theorem dX11_type_25 : decode cX11_type 25 = .ok (.iload_n 1, 1) := by decide +kernel
theorem dX11_type_26 : decode cX11_type 26 = .ok (.aaload, 1) := by decide +kernel
theorem dX11_type_27 : decode cX11_type 27 = .ok (.iload_n 2, 1) := by decide +kernel
theorem dX11_type_28 : decode cX11_type 28 = .ok (.invokevirtual 136, 3) := by decide +kernel
theorem dX11_type_31 : decode cX11_type 31 = .ok (.ireturn, 1) := by decide +kernel
theorem dX11_wipe_0 : decode cX11_wipe 0 = .ok (.iload_n 1, 1) := by decide +kernel
theorem dX11_wipe_1 : decode cX11_wipe 1 = .ok (.invokestatic 133, 3) := by decide +kernel
theorem dX11_wipe_4 : decode cX11_wipe 4 = .ok (.ifCond .ne 6, 3) := by decide +kernel
theorem dX11_wipe_7 : decode cX11_wipe 7 = .ok (.bipush (-2), 2) := by decide +kernel
theorem dX11_wipe_9 : decode cX11_wipe 9 = .ok (.ireturn, 1) := by decide +kernel
theorem dX11_wipe_10 : decode cX11_wipe 10 = .ok (.aload_n 0, 1) := by decide +kernel
theorem dX11_wipe_11 : decode cX11_wipe 11 = .ok (.getfield 27, 3) := by decide +kernel
theorem dX11_wipe_14 : decode cX11_wipe 14 = .ok (.iload_n 1, 1) := by decide +kernel
theorem dX11_wipe_15 : decode cX11_wipe 15 = .ok (.aaload, 1) := by decide +kernel
theorem dX11_wipe_16 : decode cX11_wipe 16 = .ok (.invokevirtual 139, 3) := by decide +kernel
theorem dX11_wipe_19 : decode cX11_wipe 19 = .ok (.ireturn, 1) := by decide +kernel
theorem dX11_fault_0 : decode cX11_fault 0 = .ok (.iload_n 1, 1) := by decide +kernel
theorem dX11_fault_1 : decode cX11_fault 1 = .ok (.invokestatic 133, 3) := by decide +kernel
theorem dX11_fault_4 : decode cX11_fault 4 = .ok (.ifCond .ne 6, 3) := by decide +kernel
theorem dX11_fault_7 : decode cX11_fault 7 = .ok (.bipush (-2), 2) := by decide +kernel
theorem dX11_fault_9 : decode cX11_fault 9 = .ok (.ireturn, 1) := by decide +kernel
theorem dX11_fault_10 : decode cX11_fault 10 = .ok (.aload_n 0, 1) := by decide +kernel
theorem dX11_fault_11 : decode cX11_fault 11 = .ok (.getfield 27, 3) := by decide +kernel
theorem dX11_fault_14 : decode cX11_fault 14 = .ok (.iload_n 1, 1) := by decide +kernel
theorem dX11_fault_15 : decode cX11_fault 15 = .ok (.aaload, 1) := by decide +kernel
theorem dX11_fault_16 : decode cX11_fault 16 = .ok (.getfield 143, 3) := by decide +kernel
theorem dX11_fault_19 : decode cX11_fault 19 = .ok (.ireturn, 1) := by decide +kernel
theorem dX11_can_0 : decode cX11_can 0 = .ok (.iload_n 1, 1) := by decide +kernel
theorem dX11_can_1 : decode cX11_can 1 = .ok (.invokestatic 133, 3) := by decide +kernel
theorem dX11_can_4 : decode cX11_can 4 = .ok (.ifCond .ne 6, 3) := by decide +kernel
theorem dX11_can_7 : decode cX11_can 7 = .ok (.bipush (-2), 2) := by decide +kernel
theorem dX11_can_9 : decode cX11_can 9 = .ok (.ireturn, 1) := by decide +kernel
theorem dX11_can_10 : decode cX11_can 10 = .ok (.aload_n 0, 1) := by decide +kernel
theorem dX11_can_11 : decode cX11_can 11 = .ok (.getfield 27, 3) := by decide +kernel
theorem dX11_can_14 : decode cX11_can 14 = .ok (.iload_n 1, 1) := by decide +kernel
theorem dX11_can_15 : decode cX11_can 15 = .ok (.aaload, 1) := by decide +kernel
theorem dX11_can_16 : decode cX11_can 16 = .ok (.invokevirtual 146, 3) := by decide +kernel
theorem dX11_can_19 : decode cX11_can 19 = .ok (.ifnonnull 7, 3) := by decide +kernel
theorem dX11_can_22 : decode cX11_can 22 = .ok (.iconst 0, 1) := by decide +kernel
theorem dX11_can_23 : decode cX11_can 23 = .ok (.goto 4, 3) := by decide +kernel
theorem dX11_can_26 : decode cX11_can 26 = .ok (.iconst 1, 1) := by decide +kernel
theorem dX11_can_27 : decode cX11_can 27 = .ok (.ireturn, 1) := by decide +kernel
theorem dX11_draws_0 : decode cX11_draws 0 = .ok (.iload_n 1, 1) := by decide +kernel
theorem dX11_draws_1 : decode cX11_draws 1 = .ok (.invokestatic 133, 3) := by decide +kernel
theorem dX11_draws_4 : decode cX11_draws 4 = .ok (.ifCond .ne 9, 3) := by decide +kernel
theorem dX11_draws_7 : decode cX11_draws 7 = .ok (.bipush (-2), 2) := by decide +kernel
theorem dX11_draws_9 : decode cX11_draws 9 = .ok (.invokestatic 150, 3) := by decide +kernel
theorem dX11_draws_12 : decode cX11_draws 12 = .ok (.lreturn, 1) := by decide +kernel
theorem dX11_draws_13 : decode cX11_draws 13 = .ok (.aload_n 0, 1) := by decide +kernel
theorem dX11_draws_14 : decode cX11_draws 14 = .ok (.getfield 27, 3) := by decide +kernel
theorem dX11_draws_17 : decode cX11_draws 17 = .ok (.iload_n 1, 1) := by decide +kernel
theorem dX11_draws_18 : decode cX11_draws 18 = .ok (.aaload, 1) := by decide +kernel
theorem dX11_draws_19 : decode cX11_draws 19 = .ok (.invokevirtual 146, 3) := by decide +kernel
theorem dX11_draws_22 : decode cX11_draws 22 = .ok (.astore_n 2, 1) := by decide +kernel
theorem dX11_draws_23 : decode cX11_draws 23 = .ok (.aload_n 2, 1) := by decide +kernel
theorem dX11_draws_24 : decode cX11_draws 24 = .ok (.ifnonnull 11, 3) := by decide +kernel
theorem dX11_draws_27 : decode cX11_draws 27 = .ok (.bipush (-3), 2) := by decide +kernel
theorem dX11_draws_29 : decode cX11_draws 29 = .ok (.invokestatic 150, 3) := by decide +kernel
theorem dX11_draws_32 : decode cX11_draws 32 = .ok (.goto 7, 3) := by decide +kernel
theorem dX11_draws_35 : decode cX11_draws 35 = .ok (.aload_n 2, 1) := by decide +kernel
theorem dX11_draws_36 : decode cX11_draws 36 = .ok (.invokevirtual 154, 3) := by decide +kernel
theorem dX11_draws_39 : decode cX11_draws 39 = .ok (.lreturn, 1) := by decide +kernel
theorem dX11_share_0 : decode cX11_share 0 = .ok (.iload_n 1, 1) := by decide +kernel
theorem dX11_share_1 : decode cX11_share 1 = .ok (.invokestatic 133, 3) := by decide +kernel
theorem dX11_share_4 : decode cX11_share 4 = .ok (.ifCond .eq 21, 3) := by decide +kernel
theorem dX11_share_7 : decode cX11_share 7 = .ok (.aload_n 0, 1) := by decide +kernel
theorem dX11_share_8 : decode cX11_share 8 = .ok (.getfield 10, 3) := by decide +kernel
theorem dX11_share_11 : decode cX11_share 11 = .ok (.iload_n 2, 1) := by decide +kernel
theorem dX11_share_12 : decode cX11_share 12 = .ok (.invokevirtual 87, 3) := by decide +kernel
theorem dX11_share_15 : decode cX11_share 15 = .ok (.ifCond .eq 10, 3) := by decide +kernel
theorem dX11_share_18 : decode cX11_share 18 = .ok (.iload_n 3, 1) := by decide +kernel
theorem dX11_share_19 : decode cX11_share 19 = .ok (.invokestatic 160, 3) := by decide +kernel
theorem dX11_share_22 : decode cX11_share 22 = .ok (.ifCond .ne 9, 3) := by decide +kernel
theorem dX11_share_25 : decode cX11_share 25 = .ok (.bipush (-2), 2) := by decide +kernel
theorem dX11_share_27 : decode cX11_share 27 = .ok (.invokestatic 150, 3) := by decide +kernel
theorem dX11_share_30 : decode cX11_share 30 = .ok (.lreturn, 1) := by decide +kernel
theorem dX11_share_31 : decode cX11_share 31 = .ok (.aload_n 0, 1) := by decide +kernel
theorem dX11_share_32 : decode cX11_share 32 = .ok (.getfield 27, 3) := by decide +kernel
theorem dX11_share_35 : decode cX11_share 35 = .ok (.iload_n 1, 1) := by decide +kernel
theorem dX11_share_36 : decode cX11_share 36 = .ok (.aaload, 1) := by decide +kernel
theorem dX11_share_37 : decode cX11_share 37 = .ok (.invokevirtual 146, 3) := by decide +kernel
theorem dX11_share_40 : decode cX11_share 40 = .ok (.astore 4, 2) := by decide +kernel
theorem dX11_share_42 : decode cX11_share 42 = .ok (.aload 4, 2) := by decide +kernel
theorem dX11_share_44 : decode cX11_share 44 = .ok (.ifnonnull 9, 3) := by decide +kernel
theorem dX11_share_47 : decode cX11_share 47 = .ok (.bipush (-3), 2) := by decide +kernel
theorem dX11_share_49 : decode cX11_share 49 = .ok (.invokestatic 150, 3) := by decide +kernel
theorem dX11_share_52 : decode cX11_share 52 = .ok (.lreturn, 1) := by decide +kernel
theorem dX11_share_53 : decode cX11_share 53 = .ok (.aload 4, 2) := by decide +kernel
theorem dX11_share_55 : decode cX11_share 55 = .ok (.iload_n 2, 1) := by decide +kernel
theorem dX11_share_56 : decode cX11_share 56 = .ok (.aload_n 0, 1) := by decide +kernel
theorem dX11_share_57 : decode cX11_share 57 = .ok (.getfield 54, 3) := by decide +kernel
theorem dX11_share_60 : decode cX11_share 60 = .ok (.invokevirtual 163, 3) := by decide +kernel
theorem dX11_share_63 : decode cX11_share 63 = .ok (.aload_n 0, 1) := by decide +kernel
theorem dX11_share_64 : decode cX11_share 64 = .ok (.getfield 54, 3) := by decide +kernel
theorem dX11_share_67 : decode cX11_share 67 = .ok (.iload_n 3, 1) := by decide +kernel
theorem dX11_share_68 : decode cX11_share 68 = .ok (.invokevirtual 167, 3) := by decide +kernel
theorem dX11_share_71 : decode cX11_share 71 = .ok (.lreturn, 1) := by decide +kernel
theorem dX11_both_0 : decode cX11_both 0 = .ok (.iload_n 1, 1) := by decide +kernel
theorem dX11_both_1 : decode cX11_both 1 = .ok (.invokestatic 133, 3) := by decide +kernel
theorem dX11_both_4 : decode cX11_both 4 = .ok (.ifCond .eq 38, 3) := by decide +kernel
theorem dX11_both_7 : decode cX11_both 7 = .ok (.aload_n 0, 1) := by decide +kernel
theorem dX11_both_8 : decode cX11_both 8 = .ok (.getfield 10, 3) := by decide +kernel
theorem dX11_both_11 : decode cX11_both 11 = .ok (.iload_n 2, 1) := by decide +kernel
theorem dX11_both_12 : decode cX11_both 12 = .ok (.invokevirtual 87, 3) := by decide +kernel
theorem dX11_both_15 : decode cX11_both 15 = .ok (.ifCond .eq 27, 3) := by decide +kernel
theorem dX11_both_18 : decode cX11_both 18 = .ok (.aload_n 0, 1) := by decide +kernel
theorem dX11_both_19 : decode cX11_both 19 = .ok (.getfield 10, 3) := by decide +kernel
theorem dX11_both_22 : decode cX11_both 22 = .ok (.iload_n 3, 1) := by decide +kernel
theorem dX11_both_23 : decode cX11_both 23 = .ok (.invokevirtual 87, 3) := by decide +kernel
theorem dX11_both_26 : decode cX11_both 26 = .ok (.ifCond .eq 16, 3) := by decide +kernel
theorem dX11_both_29 : decode cX11_both 29 = .ok (.iload_n 2, 1) := by decide +kernel
theorem dX11_both_30 : decode cX11_both 30 = .ok (.iload_n 3, 1) := by decide +kernel
theorem dX11_both_31 : decode cX11_both 31 = .ok (.if_icmp .eq 11, 3) := by decide +kernel
theorem dX11_both_34 : decode cX11_both 34 = .ok (.iload 4, 2) := by decide +kernel
theorem dX11_both_36 : decode cX11_both 36 = .ok (.invokestatic 160, 3) := by decide +kernel
theorem dX11_both_39 : decode cX11_both 39 = .ok (.ifCond .ne 9, 3) := by decide +kernel
theorem dX11_both_42 : decode cX11_both 42 = .ok (.bipush (-2), 2) := by decide +kernel
theorem dX11_both_44 : decode cX11_both 44 = .ok (.invokestatic 150, 3) := by decide +kernel
theorem dX11_both_47 : decode cX11_both 47 = .ok (.lreturn, 1) := by decide +kernel
theorem dX11_both_48 : decode cX11_both 48 = .ok (.aload_n 0, 1) := by decide +kernel
theorem dX11_both_49 : decode cX11_both 49 = .ok (.getfield 27, 3) := by decide +kernel
theorem dX11_both_52 : decode cX11_both 52 = .ok (.iload_n 1, 1) := by decide +kernel
theorem dX11_both_53 : decode cX11_both 53 = .ok (.aaload, 1) := by decide +kernel
theorem dX11_both_54 : decode cX11_both 54 = .ok (.invokevirtual 146, 3) := by decide +kernel
theorem dX11_both_57 : decode cX11_both 57 = .ok (.astore 5, 2) := by decide +kernel
theorem dX11_both_59 : decode cX11_both 59 = .ok (.aload 5, 2) := by decide +kernel
theorem dX11_both_61 : decode cX11_both 61 = .ok (.ifnonnull 9, 3) := by decide +kernel
theorem dX11_both_64 : decode cX11_both 64 = .ok (.bipush (-3), 2) := by decide +kernel
theorem dX11_both_66 : decode cX11_both 66 = .ok (.invokestatic 150, 3) := by decide +kernel
theorem dX11_both_69 : decode cX11_both 69 = .ok (.lreturn, 1) := by decide +kernel
theorem dX11_both_70 : decode cX11_both 70 = .ok (.aload 5, 2) := by decide +kernel
theorem dX11_both_72 : decode cX11_both 72 = .ok (.iload_n 2, 1) := by decide +kernel
theorem dX11_both_73 : decode cX11_both 73 = .ok (.iload_n 3, 1) := by decide +kernel
theorem dX11_both_74 : decode cX11_both 74 = .ok (.aload_n 0, 1) := by decide +kernel
theorem dX11_both_75 : decode cX11_both 75 = .ok (.getfield 54, 3) := by decide +kernel
theorem dX11_both_78 : decode cX11_both 78 = .ok (.invokevirtual 170, 3) := by decide +kernel
theorem dX11_both_81 : decode cX11_both 81 = .ok (.aload_n 0, 1) := by decide +kernel
theorem dX11_both_82 : decode cX11_both 82 = .ok (.getfield 54, 3) := by decide +kernel
theorem dX11_both_85 : decode cX11_both 85 = .ok (.iload 4, 2) := by decide +kernel
theorem dX11_both_87 : decode cX11_both 87 = .ok (.invokevirtual 167, 3) := by decide +kernel
theorem dX11_both_90 : decode cX11_both 90 = .ok (.lreturn, 1) := by decide +kernel
theorem dX11_width_0 : decode cX11_width 0 = .ok (.iload_n 1, 1) := by decide +kernel
theorem dX11_width_1 : decode cX11_width 1 = .ok (.invokestatic 133, 3) := by decide +kernel
theorem dX11_width_4 : decode cX11_width 4 = .ok (.ifCond .eq 12, 3) := by decide +kernel
theorem dX11_width_7 : decode cX11_width 7 = .ok (.iload_n 2, 1) := by decide +kernel
theorem dX11_width_8 : decode cX11_width 8 = .ok (.iconst 0, 1) := by decide +kernel
theorem dX11_width_9 : decode cX11_width 9 = .ok (.iconst 1, 1) := by decide +kernel
theorem dX11_width_10 : decode cX11_width 10 = .ok (.invokestatic 105, 3) := by decide +kernel
theorem dX11_width_13 : decode cX11_width 13 = .ok (.ifCond .ne 6, 3) := by decide +kernel
theorem dX11_width_16 : decode cX11_width 16 = .ok (.bipush (-2), 2) := by decide +kernel
theorem dX11_width_18 : decode cX11_width 18 = .ok (.ireturn, 1) := by decide +kernel
theorem dX11_width_19 : decode cX11_width 19 = .ok (.aload_n 0, 1) := by decide +kernel
theorem dX11_width_20 : decode cX11_width 20 = .ok (.getfield 27, 3) := by decide +kernel
theorem dX11_width_23 : decode cX11_width 23 = .ok (.iload_n 1, 1) := by decide +kernel
theorem dX11_width_24 : decode cX11_width 24 = .ok (.aaload, 1) := by decide +kernel
theorem dX11_width_25 : decode cX11_width 25 = .ok (.invokevirtual 146, 3) := by decide +kernel
theorem dX11_width_28 : decode cX11_width 28 = .ok (.astore_n 3, 1) := by decide +kernel
theorem dX11_width_29 : decode cX11_width 29 = .ok (.aload_n 3, 1) := by decide +kernel
theorem dX11_width_30 : decode cX11_width 30 = .ok (.ifnonnull 6, 3) := by decide +kernel
theorem dX11_width_33 : decode cX11_width 33 = .ok (.bipush (-3), 2) := by decide +kernel
theorem dX11_width_35 : decode cX11_width 35 = .ok (.ireturn, 1) := by decide +kernel
theorem dX11_width_36 : decode cX11_width 36 = .ok (.iload_n 2, 1) := by decide +kernel
theorem dX11_width_37 : decode cX11_width 37 = .ok (.ifCond .ne 10, 3) := by decide +kernel
theorem dX11_width_40 : decode cX11_width 40 = .ok (.aload_n 3, 1) := by decide +kernel
theorem dX11_width_41 : decode cX11_width 41 = .ok (.invokevirtual 174, 3) := by decide +kernel
theorem dX11_width_44 : decode cX11_width 44 = .ok (.goto 7, 3) := by decide +kernel
theorem dX11_width_47 : decode cX11_width 47 = .ok (.aload_n 3, 1) := by decide +kernel
theorem dX11_width_48 : decode cX11_width 48 = .ok (.invokevirtual 177, 3) := by decide +kernel
theorem dX11_width_51 : decode cX11_width 51 = .ok (.ireturn, 1) := by decide +kernel
theorem dX11_lots_0 : decode cX11_lots 0 = .ok (.iload_n 1, 1) := by decide +kernel
theorem dX11_lots_1 : decode cX11_lots 1 = .ok (.invokestatic 133, 3) := by decide +kernel
theorem dX11_lots_4 : decode cX11_lots 4 = .ok (.ifCond .ne 6, 3) := by decide +kernel
theorem dX11_lots_7 : decode cX11_lots 7 = .ok (.bipush (-2), 2) := by decide +kernel
theorem dX11_lots_9 : decode cX11_lots 9 = .ok (.ireturn, 1) := by decide +kernel
theorem dX11_lots_10 : decode cX11_lots 10 = .ok (.aload_n 0, 1) := by decide +kernel
theorem dX11_lots_11 : decode cX11_lots 11 = .ok (.getfield 27, 3) := by decide +kernel
theorem dX11_lots_14 : decode cX11_lots 14 = .ok (.iload_n 1, 1) := by decide +kernel
theorem dX11_lots_15 : decode cX11_lots 15 = .ok (.aaload, 1) := by decide +kernel
theorem dX11_lots_16 : decode cX11_lots 16 = .ok (.invokevirtual 146, 3) := by decide +kernel
theorem dX11_lots_19 : decode cX11_lots 19 = .ok (.astore_n 3, 1) := by decide +kernel
theorem dX11_lots_20 : decode cX11_lots 20 = .ok (.aload_n 3, 1) := by decide +kernel
theorem dX11_lots_21 : decode cX11_lots 21 = .ok (.ifnonnull 6, 3) := by decide +kernel
theorem dX11_lots_24 : decode cX11_lots 24 = .ok (.bipush (-3), 2) := by decide +kernel
theorem dX11_lots_26 : decode cX11_lots 26 = .ok (.ireturn, 1) := by decide +kernel
theorem dX11_lots_27 : decode cX11_lots 27 = .ok (.aload_n 3, 1) := by decide +kernel
theorem dX11_lots_28 : decode cX11_lots 28 = .ok (.iload_n 2, 1) := by decide +kernel
theorem dX11_lots_29 : decode cX11_lots 29 = .ok (.putfield 180, 3) := by decide +kernel
theorem dX11_lots_32 : decode cX11_lots 32 = .ok (.aload_n 3, 1) := by decide +kernel
theorem dX11_lots_33 : decode cX11_lots 33 = .ok (.invokevirtual 183, 3) := by decide +kernel
theorem dX11_lots_36 : decode cX11_lots 36 = .ok (.ireturn, 1) := by decide +kernel
theorem dX11_makes_0 : decode cX11_makes 0 = .ok (.iload_n 1, 1) := by decide +kernel
theorem dX11_makes_1 : decode cX11_makes 1 = .ok (.invokestatic 133, 3) := by decide +kernel
theorem dX11_makes_4 : decode cX11_makes 4 = .ok (.ifCond .eq 14, 3) := by decide +kernel
theorem dX11_makes_7 : decode cX11_makes 7 = .ok (.aload_n 0, 1) := by decide +kernel
theorem dX11_makes_8 : decode cX11_makes 8 = .ok (.getfield 10, 3) := by decide +kernel
theorem dX11_makes_11 : decode cX11_makes 11 = .ok (.iload_n 2, 1) := by decide +kernel
theorem dX11_makes_12 : decode cX11_makes 12 = .ok (.invokevirtual 186, 3) := by decide +kernel
theorem dX11_makes_15 : decode cX11_makes 15 = .ok (.ifCond .ne 6, 3) := by decide +kernel
theorem dX11_makes_18 : decode cX11_makes 18 = .ok (.bipush (-2), 2) := by decide +kernel
theorem dX11_makes_20 : decode cX11_makes 20 = .ok (.ireturn, 1) := by decide +kernel
theorem dX11_makes_21 : decode cX11_makes 21 = .ok (.aload_n 0, 1) := by decide +kernel
theorem dX11_makes_22 : decode cX11_makes 22 = .ok (.getfield 27, 3) := by decide +kernel
theorem dX11_makes_25 : decode cX11_makes 25 = .ok (.iload_n 1, 1) := by decide +kernel
theorem dX11_makes_26 : decode cX11_makes 26 = .ok (.aaload, 1) := by decide +kernel
theorem dX11_makes_27 : decode cX11_makes 27 = .ok (.invokevirtual 146, 3) := by decide +kernel
theorem dX11_makes_30 : decode cX11_makes 30 = .ok (.astore_n 3, 1) := by decide +kernel
theorem dX11_makes_31 : decode cX11_makes 31 = .ok (.aload_n 3, 1) := by decide +kernel
theorem dX11_makes_32 : decode cX11_makes 32 = .ok (.ifnonnull 6, 3) := by decide +kernel
theorem dX11_makes_35 : decode cX11_makes 35 = .ok (.bipush (-3), 2) := by decide +kernel
theorem dX11_makes_37 : decode cX11_makes 37 = .ok (.ireturn, 1) := by decide +kernel
theorem dX11_makes_38 : decode cX11_makes 38 = .ok (.aload_n 3, 1) := by decide +kernel
theorem dX11_makes_39 : decode cX11_makes 39 = .ok (.iload_n 2, 1) := by decide +kernel
theorem dX11_makes_40 : decode cX11_makes 40 = .ok (.invokevirtual 189, 3) := by decide +kernel
theorem dX11_makes_43 : decode cX11_makes 43 = .ok (.ifCond .eq 7, 3) := by decide +kernel
theorem dX11_makes_46 : decode cX11_makes 46 = .ok (.iconst 1, 1) := by decide +kernel
theorem dX11_makes_47 : decode cX11_makes 47 = .ok (.goto 4, 3) := by decide +kernel
theorem dX11_makes_50 : decode cX11_makes 50 = .ok (.iconst 0, 1) := by decide +kernel
theorem dX11_makes_51 : decode cX11_makes 51 = .ok (.ireturn, 1) := by decide +kernel
theorem dX11_sum_0 : decode cX11_sum 0 = .ok (.iload_n 3, 1) := by decide +kernel
theorem dX11_sum_1 : decode cX11_sum 1 = .ok (.invokestatic 160, 3) := by decide +kernel
theorem dX11_sum_4 : decode cX11_sum 4 = .ok (.ifCond .ne 9, 3) := by decide +kernel
theorem dX11_sum_7 : decode cX11_sum 7 = .ok (.bipush (-2), 2) := by decide +kernel
theorem dX11_sum_9 : decode cX11_sum 9 = .ok (.invokestatic 150, 3) := by decide +kernel
theorem dX11_sum_12 : decode cX11_sum 12 = .ok (.lreturn, 1) := by decide +kernel
theorem dX11_sum_13 : decode cX11_sum 13 = .ok (.aload_n 0, 1) := by decide +kernel
theorem dX11_sum_14 : decode cX11_sum 14 = .ok (.iload_n 1, 1) := by decide +kernel
theorem dX11_sum_15 : decode cX11_sum 15 = .ok (.iload_n 2, 1) := by decide +kernel
theorem dX11_sum_16 : decode cX11_sum 16 = .ok (.invokevirtual 192, 3) := by decide +kernel
theorem dX11_sum_19 : decode cX11_sum 19 = .ok (.istore 4, 2) := by decide +kernel
theorem dX11_sum_21 : decode cX11_sum 21 = .ok (.iload 4, 2) := by decide +kernel
theorem dX11_sum_23 : decode cX11_sum 23 = .ok (.ifCond .ge 9, 3) := by decide +kernel
theorem dX11_sum_26 : decode cX11_sum 26 = .ok (.iload 4, 2) := by decide +kernel
theorem dX11_sum_28 : decode cX11_sum 28 = .ok (.invokestatic 150, 3) := by decide +kernel
theorem dX11_sum_31 : decode cX11_sum 31 = .ok (.lreturn, 1) := by decide +kernel
theorem dX11_sum_32 : decode cX11_sum 32 = .ok (.aload_n 0, 1) := by decide +kernel
theorem dX11_sum_33 : decode cX11_sum 33 = .ok (.aload_n 0, 1) := by decide +kernel
theorem dX11_sum_34 : decode cX11_sum 34 = .ok (.getfield 27, 3) := by decide +kernel
theorem dX11_sum_37 : decode cX11_sum 37 = .ok (.iload_n 1, 1) := by decide +kernel
theorem dX11_sum_38 : decode cX11_sum 38 = .ok (.aaload, 1) := by decide +kernel
theorem dX11_sum_39 : decode cX11_sum 39 = .ok (.invokevirtual 146, 3) := by decide +kernel
theorem dX11_sum_42 : decode cX11_sum 42 = .ok (.iload_n 2, 1) := by decide +kernel
theorem dX11_sum_43 : decode cX11_sum 43 = .ok (.invokevirtual 196, 3) := by decide +kernel
theorem dX11_sum_46 : decode cX11_sum 46 = .ok (.aload_n 0, 1) := by decide +kernel
theorem dX11_sum_47 : decode cX11_sum 47 = .ok (.getfield 54, 3) := by decide +kernel
theorem dX11_sum_50 : decode cX11_sum 50 = .ok (.iload_n 3, 1) := by decide +kernel
theorem dX11_sum_51 : decode cX11_sum 51 = .ok (.invokevirtual 167, 3) := by decide +kernel
theorem dX11_sum_54 : decode cX11_sum 54 = .ok (.lreturn, 1) := by decide +kernel
theorem dX11_silent_0 : decode cX11_silent 0 = .ok (.aload_n 0, 1) := by decide +kernel
theorem dX11_silent_1 : decode cX11_silent 1 = .ok (.getfield 10, 3) := by decide +kernel
theorem dX11_silent_4 : decode cX11_silent 4 = .ok (.iload_n 1, 1) := by decide +kernel
theorem dX11_silent_5 : decode cX11_silent 5 = .ok (.invokevirtual 186, 3) := by decide +kernel
theorem dX11_silent_8 : decode cX11_silent 8 = .ok (.ifCond .ne 6, 3) := by decide +kernel
theorem dX11_silent_11 : decode cX11_silent 11 = .ok (.bipush (-2), 2) := by decide +kernel
theorem dX11_silent_13 : decode cX11_silent 13 = .ok (.ireturn, 1) := by decide +kernel
theorem dX11_silent_14 : decode cX11_silent 14 = .ok (.iload_n 1, 1) := by decide +kernel
theorem dX11_silent_15 : decode cX11_silent 15 = .ok (.aload_n 0, 1) := by decide +kernel
theorem dX11_silent_16 : decode cX11_silent 16 = .ok (.getfield 10, 3) := by decide +kernel
theorem dX11_silent_19 : decode cX11_silent 19 = .ok (.getfield 200, 3) := by decide +kernel
theorem dX11_silent_22 : decode cX11_silent 22 = .ok (.iconst (-1), 1) := by decide +kernel
theorem dX11_silent_23 : decode cX11_silent 23 = .ok (.ixor, 1) := by decide +kernel
theorem dX11_silent_24 : decode cX11_silent 24 = .ok (.iand, 1) := by decide +kernel
theorem dX11_silent_25 : decode cX11_silent 25 = .ok (.invokestatic 119, 3) := by decide +kernel
theorem dX11_silent_28 : decode cX11_silent 28 = .ok (.ireturn, 1) := by decide +kernel
theorem dX11_spread_0 : decode cX11_spread 0 = .ok (.iload_n 1, 1) := by decide +kernel
theorem dX11_spread_1 : decode cX11_spread 1 = .ok (.invokestatic 133, 3) := by decide +kernel
theorem dX11_spread_4 : decode cX11_spread 4 = .ok (.ifCond .eq 10, 3) := by decide +kernel
theorem dX11_spread_7 : decode cX11_spread 7 = .ok (.iload_n 2, 1) := by decide +kernel
theorem dX11_spread_8 : decode cX11_spread 8 = .ok (.invokestatic 160, 3) := by decide +kernel
theorem dX11_spread_11 : decode cX11_spread 11 = .ok (.ifCond .ne 9, 3) := by decide +kernel
theorem dX11_spread_14 : decode cX11_spread 14 = .ok (.bipush (-2), 2) := by decide +kernel
theorem dX11_spread_16 : decode cX11_spread 16 = .ok (.invokestatic 150, 3) := by decide +kernel
theorem dX11_spread_19 : decode cX11_spread 19 = .ok (.lreturn, 1) := by decide +kernel
theorem dX11_spread_20 : decode cX11_spread 20 = .ok (.aload_n 0, 1) := by decide +kernel
theorem dX11_spread_21 : decode cX11_spread 21 = .ok (.iload_n 1, 1) := by decide +kernel
theorem dX11_spread_22 : decode cX11_spread 22 = .ok (.aload_n 0, 1) := by decide +kernel
theorem dX11_spread_23 : decode cX11_spread 23 = .ok (.getfield 54, 3) := by decide +kernel
theorem dX11_spread_26 : decode cX11_spread 26 = .ok (.invokevirtual 203, 3) := by decide +kernel
theorem dX11_spread_29 : decode cX11_spread 29 = .ok (.ifCond .ne 9, 3) := by decide +kernel
theorem dX11_spread_32 : decode cX11_spread 32 = .ok (.bipush (-3), 2) := by decide +kernel
theorem dX11_spread_34 : decode cX11_spread 34 = .ok (.invokestatic 150, 3) := by decide +kernel
theorem dX11_spread_37 : decode cX11_spread 37 = .ok (.lreturn, 1) := by decide +kernel
theorem dX11_spread_38 : decode cX11_spread 38 = .ok (.aload_n 0, 1) := by decide +kernel
theorem dX11_spread_39 : decode cX11_spread 39 = .ok (.getfield 54, 3) := by decide +kernel
theorem dX11_spread_42 : decode cX11_spread 42 = .ok (.iload_n 2, 1) := by decide +kernel
theorem dX11_spread_43 : decode cX11_spread 43 = .ok (.invokevirtual 167, 3) := by decide +kernel
theorem dX11_spread_46 : decode cX11_spread 46 = .ok (.lreturn, 1) := by decide +kernel
theorem dX11_wider_0 : decode cX11_wider 0 = .ok (.iload_n 1, 1) := by decide +kernel
theorem dX11_wider_1 : decode cX11_wider 1 = .ok (.invokestatic 133, 3) := by decide +kernel
theorem dX11_wider_4 : decode cX11_wider 4 = .ok (.ifCond .eq 10, 3) := by decide +kernel
theorem dX11_wider_7 : decode cX11_wider 7 = .ok (.iload_n 2, 1) := by decide +kernel
theorem dX11_wider_8 : decode cX11_wider 8 = .ok (.invokestatic 133, 3) := by decide +kernel
theorem dX11_wider_11 : decode cX11_wider 11 = .ok (.ifCond .ne 6, 3) := by decide +kernel
theorem dX11_wider_14 : decode cX11_wider 14 = .ok (.bipush (-2), 2) := by decide +kernel
theorem dX11_wider_16 : decode cX11_wider 16 = .ok (.ireturn, 1) := by decide +kernel
theorem dX11_wider_17 : decode cX11_wider 17 = .ok (.aload_n 0, 1) := by decide +kernel
theorem dX11_wider_18 : decode cX11_wider 18 = .ok (.iload_n 1, 1) := by decide +kernel
theorem dX11_wider_19 : decode cX11_wider 19 = .ok (.aload_n 0, 1) := by decide +kernel
theorem dX11_wider_20 : decode cX11_wider 20 = .ok (.getfield 54, 3) := by decide +kernel
theorem dX11_wider_23 : decode cX11_wider 23 = .ok (.invokevirtual 203, 3) := by decide +kernel
theorem dX11_wider_26 : decode cX11_wider 26 = .ok (.ifCond .eq 15, 3) := by decide +kernel
theorem dX11_wider_29 : decode cX11_wider 29 = .ok (.aload_n 0, 1) := by decide +kernel
theorem dX11_wider_30 : decode cX11_wider 30 = .ok (.iload_n 2, 1) := by decide +kernel
theorem dX11_wider_31 : decode cX11_wider 31 = .ok (.aload_n 0, 1) := by decide +kernel
theorem dX11_wider_32 : decode cX11_wider 32 = .ok (.getfield 58, 3) := by decide +kernel
theorem dX11_wider_35 : decode cX11_wider 35 = .ok (.invokevirtual 203, 3) := by decide +kernel
theorem dX11_wider_38 : decode cX11_wider 38 = .ok (.ifCond .ne 6, 3) := by decide +kernel
theorem dX11_wider_41 : decode cX11_wider 41 = .ok (.bipush (-3), 2) := by decide +kernel
theorem dX11_wider_43 : decode cX11_wider 43 = .ok (.ireturn, 1) := by decide +kernel
theorem dX11_wider_44 : decode cX11_wider 44 = .ok (.aload_n 0, 1) := by decide +kernel
theorem dX11_wider_45 : decode cX11_wider 45 = .ok (.getfield 54, 3) := by decide +kernel
theorem dX11_wider_48 : decode cX11_wider 48 = .ok (.aload_n 0, 1) := by decide +kernel
theorem dX11_wider_49 : decode cX11_wider 49 = .ok (.getfield 58, 3) := by decide +kernel
theorem dX11_wider_52 : decode cX11_wider 52 = .ok (.invokevirtual 207, 3) := by decide +kernel
theorem dX11_wider_55 : decode cX11_wider 55 = .ok (.ireturn, 1) := by decide +kernel
theorem dX11_edge_0 : decode cX11_edge 0 = .ok (.iload_n 1, 1) := by decide +kernel
theorem dX11_edge_1 : decode cX11_edge 1 = .ok (.invokestatic 133, 3) := by decide +kernel
theorem dX11_edge_4 : decode cX11_edge 4 = .ok (.ifCond .eq 12, 3) := by decide +kernel
theorem dX11_edge_7 : decode cX11_edge 7 = .ok (.iload_n 2, 1) := by decide +kernel
theorem dX11_edge_8 : decode cX11_edge 8 = .ok (.iconst 0, 1) := by decide +kernel
theorem dX11_edge_9 : decode cX11_edge 9 = .ok (.iconst 1, 1) := by decide +kernel
theorem dX11_edge_10 : decode cX11_edge 10 = .ok (.invokestatic 105, 3) := by decide +kernel
theorem dX11_edge_13 : decode cX11_edge 13 = .ok (.ifCond .ne 9, 3) := by decide +kernel
theorem dX11_edge_16 : decode cX11_edge 16 = .ok (.bipush (-2), 2) := by decide +kernel
theorem dX11_edge_18 : decode cX11_edge 18 = .ok (.invokestatic 150, 3) := by decide +kernel
theorem dX11_edge_21 : decode cX11_edge 21 = .ok (.lreturn, 1) := by decide +kernel
theorem dX11_edge_22 : decode cX11_edge 22 = .ok (.aload_n 0, 1) := by decide +kernel
theorem dX11_edge_23 : decode cX11_edge 23 = .ok (.getfield 27, 3) := by decide +kernel
theorem dX11_edge_26 : decode cX11_edge 26 = .ok (.iload_n 1, 1) := by decide +kernel
theorem dX11_edge_27 : decode cX11_edge 27 = .ok (.aaload, 1) := by decide +kernel
theorem dX11_edge_28 : decode cX11_edge 28 = .ok (.invokevirtual 146, 3) := by decide +kernel
theorem dX11_edge_31 : decode cX11_edge 31 = .ok (.astore 4, 2) := by decide +kernel
theorem dX11_edge_33 : decode cX11_edge 33 = .ok (.aload 4, 2) := by decide +kernel
theorem dX11_edge_35 : decode cX11_edge 35 = .ok (.instanceof 211, 3) := by decide +kernel
theorem dX11_edge_38 : decode cX11_edge 38 = .ok (.ifCond .eq 16, 3) := by decide +kernel
theorem dX11_edge_41 : decode cX11_edge 41 = .ok (.aload 4, 2) := by decide +kernel
theorem dX11_edge_43 : decode cX11_edge 43 = .ok (.checkcast 211, 3) := by decide +kernel
theorem dX11_edge_46 : decode cX11_edge 46 = .ok (.astore_n 3, 1) := by decide +kernel
theorem dX11_edge_47 : decode cX11_edge 47 = .ok (.aload_n 0, 1) := by decide +kernel
theorem dX11_edge_48 : decode cX11_edge 48 = .ok (.aload_n 3, 1) := by decide +kernel
theorem dX11_edge_49 : decode cX11_edge 49 = .ok (.iload_n 2, 1) := by decide +kernel
theorem dX11_edge_50 : decode cX11_edge 50 = .ok (.invokevirtual 213, 3) := by decide +kernel
theorem dX11_edge_53 : decode cX11_edge 53 = .ok (.lreturn, 1) := by decide +kernel
theorem dX11_edge_54 : decode cX11_edge 54 = .ok (.bipush (-3), 2) := by decide +kernel
theorem dX11_edge_56 : decode cX11_edge 56 = .ok (.invokestatic 150, 3) := by decide +kernel
theorem dX11_edge_59 : decode cX11_edge 59 = .ok (.lreturn, 1) := by decide +kernel
theorem dX11_known_0 : decode cX11_known 0 = .ok (.iload_n 3, 1) := by decide +kernel
theorem dX11_known_1 : decode cX11_known 1 = .ok (.iconst 0, 1) := by decide +kernel
theorem dX11_known_2 : decode cX11_known 2 = .ok (.sipush 30000, 3) := by decide +kernel
theorem dX11_known_5 : decode cX11_known 5 = .ok (.invokestatic 105, 3) := by decide +kernel
theorem dX11_known_8 : decode cX11_known 8 = .ok (.ifCond .ne 6, 3) := by decide +kernel
theorem dX11_known_11 : decode cX11_known 11 = .ok (.bipush (-2), 2) := by decide +kernel
theorem dX11_known_13 : decode cX11_known 13 = .ok (.ireturn, 1) := by decide +kernel
