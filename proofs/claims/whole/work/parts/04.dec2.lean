theorem dX11_known_14 : decode cX11_known 14 = .ok (.iload_n 1, 1) := by decide +kernel
theorem dX11_known_15 : decode cX11_known 15 = .ok (.ifCond .ne 25, 3) := by decide +kernel
theorem dX11_known_18 : decode cX11_known 18 = .ok (.iload_n 2, 1) := by decide +kernel
theorem dX11_known_19 : decode cX11_known 19 = .ok (.iconst 0, 1) := by decide +kernel
theorem dX11_known_20 : decode cX11_known 20 = .ok (.iconst 3, 1) := by decide +kernel
theorem dX11_known_21 : decode cX11_known 21 = .ok (.invokestatic 105, 3) := by decide +kernel
theorem dX11_known_24 : decode cX11_known 24 = .ok (.ifCond .eq 16, 3) := by decide +kernel
theorem dX11_known_27 : decode cX11_known 27 = .ok (.aload_n 0, 1) := by decide +kernel
theorem dX11_known_28 : decode cX11_known 28 = .ok (.getfield 40, 3) := by decide +kernel
theorem dX11_known_31 : decode cX11_known 31 = .ok (.getfield 217, 3) := by decide +kernel
theorem dX11_known_34 : decode cX11_known 34 = .ok (.iload_n 2, 1) := by decide +kernel
theorem dX11_known_35 : decode cX11_known 35 = .ok (.iload_n 3, 1) := by decide +kernel
theorem dX11_known_36 : decode cX11_known 36 = .ok (.invokestatic 220, 3) := by decide +kernel
theorem dX11_known_39 : decode cX11_known 39 = .ok (.ireturn, 1) := by decide +kernel
theorem dX11_known_40 : decode cX11_known 40 = .ok (.iload_n 1, 1) := by decide +kernel
theorem dX11_known_41 : decode cX11_known 41 = .ok (.iconst 1, 1) := by decide +kernel
theorem dX11_known_42 : decode cX11_known 42 = .ok (.if_icmp .ne 25, 3) := by decide +kernel
theorem dX11_known_45 : decode cX11_known 45 = .ok (.iload_n 2, 1) := by decide +kernel
theorem dX11_known_46 : decode cX11_known 46 = .ok (.iconst 0, 1) := by decide +kernel
theorem dX11_known_47 : decode cX11_known 47 = .ok (.iconst 2, 1) := by decide +kernel
theorem dX11_known_48 : decode cX11_known 48 = .ok (.invokestatic 105, 3) := by decide +kernel
theorem dX11_known_51 : decode cX11_known 51 = .ok (.ifCond .eq 16, 3) := by decide +kernel
theorem dX11_known_54 : decode cX11_known 54 = .ok (.aload_n 0, 1) := by decide +kernel
theorem dX11_known_55 : decode cX11_known 55 = .ok (.getfield 40, 3) := by decide +kernel
theorem dX11_known_58 : decode cX11_known 58 = .ok (.getfield 224, 3) := by decide +kernel
theorem dX11_known_61 : decode cX11_known 61 = .ok (.iload_n 2, 1) := by decide +kernel
theorem dX11_known_62 : decode cX11_known 62 = .ok (.iload_n 3, 1) := by decide +kernel
theorem dX11_known_63 : decode cX11_known 63 = .ok (.invokestatic 220, 3) := by decide +kernel
theorem dX11_known_66 : decode cX11_known 66 = .ok (.ireturn, 1) := by decide +kernel
theorem dX11_known_67 : decode cX11_known 67 = .ok (.bipush (-2), 2) := by decide +kernel
theorem dX11_known_69 : decode cX11_known 69 = .ok (.ireturn, 1) := by decide +kernel
theorem dX11_weight_0 : decode cX11_weight 0 = .ok (.iload_n 3, 1) := by decide +kernel
theorem dX11_weight_1 : decode cX11_weight 1 = .ok (.iconst 0, 1) := by decide +kernel
theorem dX11_weight_2 : decode cX11_weight 2 = .ok (.bipush 30, 2) := by decide +kernel
theorem dX11_weight_4 : decode cX11_weight 4 = .ok (.invokestatic 105, 3) := by decide +kernel
theorem dX11_weight_7 : decode cX11_weight 7 = .ok (.ifCond .eq 15, 3) := by decide +kernel
theorem dX11_weight_10 : decode cX11_weight 10 = .ok (.aload_n 0, 1) := by decide +kernel
theorem dX11_weight_11 : decode cX11_weight 11 = .ok (.getfield 10, 3) := by decide +kernel
theorem dX11_weight_14 : decode cX11_weight 14 = .ok (.iload 4, 2) := by decide +kernel
theorem dX11_weight_16 : decode cX11_weight 16 = .ok (.invokevirtual 87, 3) := by decide +kernel
theorem dX11_weight_19 : decode cX11_weight 19 = .ok (.ifCond .ne 6, 3) := by decide +kernel
theorem dX11_weight_22 : decode cX11_weight 22 = .ok (.bipush (-2), 2) := by decide +kernel
theorem dX11_weight_24 : decode cX11_weight 24 = .ok (.ireturn, 1) := by decide +kernel
theorem dX11_weight_25 : decode cX11_weight 25 = .ok (.aload_n 0, 1) := by decide +kernel
theorem dX11_weight_26 : decode cX11_weight 26 = .ok (.iload_n 1, 1) := by decide +kernel
theorem dX11_weight_27 : decode cX11_weight 27 = .ok (.iload_n 2, 1) := by decide +kernel
theorem dX11_weight_28 : decode cX11_weight 28 = .ok (.invokevirtual 192, 3) := by decide +kernel
theorem dX11_weight_31 : decode cX11_weight 31 = .ok (.istore 5, 2) := by decide +kernel
theorem dX11_weight_33 : decode cX11_weight 33 = .ok (.iload 5, 2) := by decide +kernel
theorem dX11_weight_35 : decode cX11_weight 35 = .ok (.ifCond .ge 6, 3) := by decide +kernel
theorem dX11_weight_38 : decode cX11_weight 38 = .ok (.iload 5, 2) := by decide +kernel
theorem dX11_weight_40 : decode cX11_weight 40 = .ok (.ireturn, 1) := by decide +kernel
theorem dX11_weight_41 : decode cX11_weight 41 = .ok (.aload_n 0, 1) := by decide +kernel
theorem dX11_weight_42 : decode cX11_weight 42 = .ok (.getfield 40, 3) := by decide +kernel
theorem dX11_weight_45 : decode cX11_weight 45 = .ok (.aload_n 0, 1) := by decide +kernel
theorem dX11_weight_46 : decode cX11_weight 46 = .ok (.getfield 27, 3) := by decide +kernel
theorem dX11_weight_49 : decode cX11_weight 49 = .ok (.iload_n 1, 1) := by decide +kernel
theorem dX11_weight_50 : decode cX11_weight 50 = .ok (.aaload, 1) := by decide +kernel
theorem dX11_weight_51 : decode cX11_weight 51 = .ok (.invokevirtual 146, 3) := by decide +kernel
theorem dX11_weight_54 : decode cX11_weight 54 = .ok (.iload_n 2, 1) := by decide +kernel
theorem dX11_weight_55 : decode cX11_weight 55 = .ok (.iload_n 3, 1) := by decide +kernel
theorem dX11_weight_56 : decode cX11_weight 56 = .ok (.invokevirtual 227, 3) := by decide +kernel
theorem dX11_weight_59 : decode cX11_weight 59 = .ok (.aload_n 0, 1) := by decide +kernel
theorem dX11_weight_60 : decode cX11_weight 60 = .ok (.getfield 40, 3) := by decide +kernel
theorem dX11_weight_63 : decode cX11_weight 63 = .ok (.getfield 231, 3) := by decide +kernel
theorem dX11_weight_66 : decode cX11_weight 66 = .ok (.iload 4, 2) := by decide +kernel
theorem dX11_weight_68 : decode cX11_weight 68 = .ok (.iaload, 1) := by decide +kernel
theorem dX11_weight_69 : decode cX11_weight 69 = .ok (.ireturn, 1) := by decide +kernel
theorem dX11_led_0 : decode cX11_led 0 = .ok (.iload_n 3, 1) := by decide +kernel
theorem dX11_led_1 : decode cX11_led 1 = .ok (.iconst 0, 1) := by decide +kernel
theorem dX11_led_2 : decode cX11_led 2 = .ok (.bipush 30, 2) := by decide +kernel
theorem dX11_led_4 : decode cX11_led 4 = .ok (.invokestatic 105, 3) := by decide +kernel
theorem dX11_led_7 : decode cX11_led 7 = .ok (.ifCond .eq 13, 3) := by decide +kernel
theorem dX11_led_10 : decode cX11_led 10 = .ok (.iload 4, 2) := by decide +kernel
theorem dX11_led_12 : decode cX11_led 12 = .ok (.iconst 0, 1) := by decide +kernel
theorem dX11_led_13 : decode cX11_led 13 = .ok (.iconst 1, 1) := by decide +kernel
theorem dX11_led_14 : decode cX11_led 14 = .ok (.invokestatic 105, 3) := by decide +kernel
theorem dX11_led_17 : decode cX11_led 17 = .ok (.ifCond .ne 6, 3) := by decide +kernel
theorem dX11_led_20 : decode cX11_led 20 = .ok (.bipush (-2), 2) := by decide +kernel
theorem dX11_led_22 : decode cX11_led 22 = .ok (.ireturn, 1) := by decide +kernel
theorem dX11_led_23 : decode cX11_led 23 = .ok (.aload_n 0, 1) := by decide +kernel
theorem dX11_led_24 : decode cX11_led 24 = .ok (.iload_n 1, 1) := by decide +kernel
theorem dX11_led_25 : decode cX11_led 25 = .ok (.iload_n 2, 1) := by decide +kernel
theorem dX11_led_26 : decode cX11_led 26 = .ok (.invokevirtual 192, 3) := by decide +kernel
theorem dX11_led_29 : decode cX11_led 29 = .ok (.istore 5, 2) := by decide +kernel
theorem dX11_led_31 : decode cX11_led 31 = .ok (.iload 5, 2) := by decide +kernel
theorem dX11_led_33 : decode cX11_led 33 = .ok (.ifCond .ge 6, 3) := by decide +kernel
theorem dX11_led_36 : decode cX11_led 36 = .ok (.iload 5, 2) := by decide +kernel
theorem dX11_led_38 : decode cX11_led 38 = .ok (.ireturn, 1) := by decide +kernel
theorem dX11_led_39 : decode cX11_led 39 = .ok (.aload_n 0, 1) := by decide +kernel
theorem dX11_led_40 : decode cX11_led 40 = .ok (.getfield 40, 3) := by decide +kernel
theorem dX11_led_43 : decode cX11_led 43 = .ok (.aload_n 0, 1) := by decide +kernel
theorem dX11_led_44 : decode cX11_led 44 = .ok (.getfield 27, 3) := by decide +kernel
theorem dX11_led_47 : decode cX11_led 47 = .ok (.iload_n 1, 1) := by decide +kernel
theorem dX11_led_48 : decode cX11_led 48 = .ok (.aaload, 1) := by decide +kernel
theorem dX11_led_49 : decode cX11_led 49 = .ok (.invokevirtual 146, 3) := by decide +kernel
theorem dX11_led_52 : decode cX11_led 52 = .ok (.iload_n 2, 1) := by decide +kernel
theorem dX11_led_53 : decode cX11_led 53 = .ok (.iload_n 3, 1) := by decide +kernel
theorem dX11_led_54 : decode cX11_led 54 = .ok (.invokevirtual 227, 3) := by decide +kernel
theorem dX11_led_57 : decode cX11_led 57 = .ok (.iload 4, 2) := by decide +kernel
theorem dX11_led_59 : decode cX11_led 59 = .ok (.ifCond .ne 13, 3) := by decide +kernel
theorem dX11_led_62 : decode cX11_led 62 = .ok (.aload_n 0, 1) := by decide +kernel
theorem dX11_led_63 : decode cX11_led 63 = .ok (.getfield 40, 3) := by decide +kernel
theorem dX11_led_66 : decode cX11_led 66 = .ok (.invokevirtual 234, 3) := by decide +kernel
theorem dX11_led_69 : decode cX11_led 69 = .ok (.goto 10, 3) := by decide +kernel
theorem dX11_led_72 : decode cX11_led 72 = .ok (.aload_n 0, 1) := by decide +kernel
theorem dX11_led_73 : decode cX11_led 73 = .ok (.getfield 40, 3) := by decide +kernel
theorem dX11_led_76 : decode cX11_led 76 = .ok (.invokevirtual 237, 3) := by decide +kernel
theorem dX11_led_79 : decode cX11_led 79 = .ok (.ireturn, 1) := by decide +kernel
theorem dX11_cost_0 : decode cX11_cost 0 = .ok (.iload_n 1, 1) := by decide +kernel
theorem dX11_cost_1 : decode cX11_cost 1 = .ok (.iconst 0, 1) := by decide +kernel
theorem dX11_cost_2 : decode cX11_cost 2 = .ok (.bipush 7, 2) := by decide +kernel
theorem dX11_cost_4 : decode cX11_cost 4 = .ok (.invokestatic 105, 3) := by decide +kernel
theorem dX11_cost_7 : decode cX11_cost 7 = .ok (.ifCond .eq 13, 3) := by decide +kernel
theorem dX11_cost_10 : decode cX11_cost 10 = .ok (.iload_n 2, 1) := by decide +kernel
theorem dX11_cost_11 : decode cX11_cost 11 = .ok (.iconst 0, 1) := by decide +kernel
theorem dX11_cost_12 : decode cX11_cost 12 = .ok (.bipush 100, 2) := by decide +kernel
theorem dX11_cost_14 : decode cX11_cost 14 = .ok (.invokestatic 105, 3) := by decide +kernel
theorem dX11_cost_17 : decode cX11_cost 17 = .ok (.ifCond .ne 6, 3) := by decide +kernel
theorem dX11_cost_20 : decode cX11_cost 20 = .ok (.bipush (-2), 2) := by decide +kernel
theorem dX11_cost_22 : decode cX11_cost 22 = .ok (.ireturn, 1) := by decide +kernel
theorem dX11_cost_23 : decode cX11_cost 23 = .ok (.aload_n 0, 1) := by decide +kernel
theorem dX11_cost_24 : decode cX11_cost 24 = .ok (.getfield 47, 3) := by decide +kernel
theorem dX11_cost_27 : decode cX11_cost 27 = .ok (.getfield 240, 3) := by decide +kernel
theorem dX11_cost_30 : decode cX11_cost 30 = .ok (.iload_n 1, 1) := by decide +kernel
theorem dX11_cost_31 : decode cX11_cost 31 = .ok (.iload_n 2, 1) := by decide +kernel
theorem dX11_cost_32 : decode cX11_cost 32 = .ok (.invokestatic 220, 3) := by decide +kernel
theorem dX11_cost_35 : decode cX11_cost 35 = .ok (.ireturn, 1) := by decide +kernel
theorem dX11_again_0 : decode cX11_again 0 = .ok (.iload_n 3, 1) := by decide +kernel
theorem dX11_again_1 : decode cX11_again 1 = .ok (.iconst 0, 1) := by decide +kernel
theorem dX11_again_2 : decode cX11_again 2 = .ok (.sipush 800, 3) := by decide +kernel
theorem dX11_again_5 : decode cX11_again 5 = .ok (.invokestatic 105, 3) := by decide +kernel
theorem dX11_again_8 : decode cX11_again 8 = .ok (.ifCond .eq 13, 3) := by decide +kernel
theorem dX11_again_11 : decode cX11_again 11 = .ok (.iload 4, 2) := by decide +kernel
theorem dX11_again_13 : decode cX11_again 13 = .ok (.iconst 0, 1) := by decide +kernel
theorem dX11_again_14 : decode cX11_again 14 = .ok (.iconst 2, 1) := by decide +kernel
theorem dX11_again_15 : decode cX11_again 15 = .ok (.invokestatic 105, 3) := by decide +kernel
theorem dX11_again_18 : decode cX11_again 18 = .ok (.ifCond .ne 6, 3) := by decide +kernel
theorem dX11_again_21 : decode cX11_again 21 = .ok (.bipush (-2), 2) := by decide +kernel
theorem dX11_again_23 : decode cX11_again 23 = .ok (.ireturn, 1) := by decide +kernel
theorem dX11_again_24 : decode cX11_again 24 = .ok (.aload_n 0, 1) := by decide +kernel
theorem dX11_again_25 : decode cX11_again 25 = .ok (.iload_n 1, 1) := by decide +kernel
theorem dX11_again_26 : decode cX11_again 26 = .ok (.iload_n 2, 1) := by decide +kernel
theorem dX11_again_27 : decode cX11_again 27 = .ok (.invokevirtual 192, 3) := by decide +kernel
theorem dX11_again_30 : decode cX11_again 30 = .ok (.istore 5, 2) := by decide +kernel
theorem dX11_again_32 : decode cX11_again 32 = .ok (.iload 5, 2) := by decide +kernel
theorem dX11_again_34 : decode cX11_again 34 = .ok (.ifCond .ge 6, 3) := by decide +kernel
theorem dX11_again_37 : decode cX11_again 37 = .ok (.iload 5, 2) := by decide +kernel
theorem dX11_again_39 : decode cX11_again 39 = .ok (.ireturn, 1) := by decide +kernel
theorem dX11_again_40 : decode cX11_again 40 = .ok (.aload_n 0, 1) := by decide +kernel
theorem dX11_again_41 : decode cX11_again 41 = .ok (.getfield 47, 3) := by decide +kernel
theorem dX11_again_44 : decode cX11_again 44 = .ok (.aload_n 0, 1) := by decide +kernel
theorem dX11_again_45 : decode cX11_again 45 = .ok (.getfield 27, 3) := by decide +kernel
theorem dX11_again_48 : decode cX11_again 48 = .ok (.iload_n 1, 1) := by decide +kernel
theorem dX11_again_49 : decode cX11_again 49 = .ok (.aaload, 1) := by decide +kernel
theorem dX11_again_50 : decode cX11_again 50 = .ok (.invokevirtual 146, 3) := by decide +kernel
theorem dX11_again_53 : decode cX11_again 53 = .ok (.iload_n 2, 1) := by decide +kernel
theorem dX11_again_54 : decode cX11_again 54 = .ok (.iload_n 3, 1) := by decide +kernel
theorem dX11_again_55 : decode cX11_again 55 = .ok (.invokevirtual 243, 3) := by decide +kernel
theorem dX11_again_58 : decode cX11_again 58 = .ok (.iload 4, 2) := by decide +kernel
theorem dX11_again_60 : decode cX11_again 60 = .ok (.lookupswitch 44 #[(0, 28), (1, 36)], 28) := by decide +kernel
theorem dX11_again_88 : decode cX11_again 88 = .ok (.aload_n 0, 1) := by decide +kernel
theorem dX11_again_89 : decode cX11_again 89 = .ok (.getfield 47, 3) := by decide +kernel
theorem dX11_again_92 : decode cX11_again 92 = .ok (.getfield 246, 3) := by decide +kernel
theorem dX11_again_95 : decode cX11_again 95 = .ok (.ireturn, 1) := by decide +kernel
theorem dX11_again_96 : decode cX11_again 96 = .ok (.aload_n 0, 1) := by decide +kernel
theorem dX11_again_97 : decode cX11_again 97 = .ok (.getfield 47, 3) := by decide +kernel
theorem dX11_again_100 : decode cX11_again 100 = .ok (.getfield 249, 3) := by decide +kernel
theorem dX11_again_103 : decode cX11_again 103 = .ok (.ireturn, 1) := by decide +kernel
theorem dX11_again_104 : decode cX11_again 104 = .ok (.aload_n 0, 1) := by decide +kernel
theorem dX11_again_105 : decode cX11_again 105 = .ok (.getfield 47, 3) := by decide +kernel
theorem dX11_again_108 : decode cX11_again 108 = .ok (.getfield 252, 3) := by decide +kernel
theorem dX11_again_111 : decode cX11_again 111 = .ok (.ireturn, 1) := by decide +kernel
theorem dX11_sheet_0 : decode cX11_sheet 0 = .ok (.iload_n 1, 1) := by decide +kernel
theorem dX11_sheet_1 : decode cX11_sheet 1 = .ok (.invokestatic 67, 3) := by decide +kernel
theorem dX11_sheet_4 : decode cX11_sheet 4 = .ok (.ifCond .eq 16, 3) := by decide +kernel
theorem dX11_sheet_7 : decode cX11_sheet 7 = .ok (.iload_n 2, 1) := by decide +kernel
theorem dX11_sheet_8 : decode cX11_sheet 8 = .ok (.invokestatic 255, 3) := by decide +kernel
theorem dX11_sheet_11 : decode cX11_sheet 11 = .ok (.ifCond .eq 9, 3) := by decide +kernel
theorem dX11_sheet_14 : decode cX11_sheet 14 = .ok (.iload_n 3, 1) := by decide +kernel
theorem dX11_sheet_15 : decode cX11_sheet 15 = .ok (.bipush 90, 2) := by decide +kernel
theorem dX11_sheet_17 : decode cX11_sheet 17 = .ok (.if_icmp .le 6, 3) := by decide +kernel
theorem dX11_sheet_20 : decode cX11_sheet 20 = .ok (.bipush (-2), 2) := by decide +kernel
theorem dX11_sheet_22 : decode cX11_sheet 22 = .ok (.ireturn, 1) := by decide +kernel
theorem dX11_sheet_23 : decode cX11_sheet 23 = .ok (.iload_n 3, 1) := by decide +kernel
theorem dX11_sheet_24 : decode cX11_sheet 24 = .ok (.ifCond .ge 9, 3) := by decide +kernel
theorem dX11_sheet_27 : decode cX11_sheet 27 = .ok (.aload_n 0, 1) := by decide +kernel
theorem dX11_sheet_28 : decode cX11_sheet 28 = .ok (.iconst 5, 1) := by decide +kernel
theorem dX11_sheet_29 : decode cX11_sheet 29 = .ok (.invokevirtual 75, 3) := by decide +kernel
theorem dX11_sheet_32 : decode cX11_sheet 32 = .ok (.ireturn, 1) := by decide +kernel
theorem dX11_sheet_33 : decode cX11_sheet 33 = .ok (.aload_n 0, 1) := by decide +kernel
theorem dX11_sheet_34 : decode cX11_sheet 34 = .ok (.getfield 33, 3) := by decide +kernel
theorem dX11_sheet_37 : decode cX11_sheet 37 = .ok (.iload_n 1, 1) := by decide +kernel
theorem dX11_sheet_38 : decode cX11_sheet 38 = .ok (.aaload, 1) := by decide +kernel
theorem dX11_sheet_39 : decode cX11_sheet 39 = .ok (.iload_n 2, 1) := by decide +kernel
theorem dX11_sheet_40 : decode cX11_sheet 40 = .ok (.iload_n 3, 1) := by decide +kernel
theorem dX11_sheet_41 : decode cX11_sheet 41 = .ok (.invokevirtual 258, 3) := by decide +kernel
theorem dX11_sheet_44 : decode cX11_sheet 44 = .ok (.iload_n 3, 1) := by decide +kernel
theorem dX11_sheet_45 : decode cX11_sheet 45 = .ok (.ireturn, 1) := by decide +kernel
theorem dX11_lose_0 : decode cX11_lose 0 = .ok (.iload_n 1, 1) := by decide +kernel
theorem dX11_lose_1 : decode cX11_lose 1 = .ok (.invokestatic 67, 3) := by decide +kernel
theorem dX11_lose_4 : decode cX11_lose 4 = .ok (.ifCond .ne 6, 3) := by decide +kernel
theorem dX11_lose_7 : decode cX11_lose 7 = .ok (.bipush (-2), 2) := by decide +kernel
theorem dX11_lose_9 : decode cX11_lose 9 = .ok (.ireturn, 1) := by decide +kernel
theorem dX11_lose_10 : decode cX11_lose 10 = .ok (.aload_n 0, 1) := by decide +kernel
theorem dX11_lose_11 : decode cX11_lose 11 = .ok (.getfield 33, 3) := by decide +kernel
theorem dX11_lose_14 : decode cX11_lose 14 = .ok (.iload_n 1, 1) := by decide +kernel
theorem dX11_lose_15 : decode cX11_lose 15 = .ok (.aaload, 1) := by decide +kernel
theorem dX11_lose_16 : decode cX11_lose 16 = .ok (.getfield 71, 3) := by decide +kernel
theorem dX11_lose_19 : decode cX11_lose 19 = .ok (.ifCond .eq 9, 3) := by decide +kernel
theorem dX11_lose_22 : decode cX11_lose 22 = .ok (.aload_n 0, 1) := by decide +kernel
theorem dX11_lose_23 : decode cX11_lose 23 = .ok (.iconst 1, 1) := by decide +kernel
theorem dX11_lose_24 : decode cX11_lose 24 = .ok (.invokevirtual 75, 3) := by decide +kernel
theorem dX11_lose_27 : decode cX11_lose 27 = .ok (.ireturn, 1) := by decide +kernel
theorem dX11_lose_28 : decode cX11_lose 28 = .ok (.aload_n 0, 1) := by decide +kernel
theorem dX11_lose_29 : decode cX11_lose 29 = .ok (.getfield 33, 3) := by decide +kernel
theorem dX11_lose_32 : decode cX11_lose 32 = .ok (.iload_n 1, 1) := by decide +kernel
theorem dX11_lose_33 : decode cX11_lose 33 = .ok (.aaload, 1) := by decide +kernel
theorem dX11_lose_34 : decode cX11_lose 34 = .ok (.iconst 1, 1) := by decide +kernel
theorem dX11_lose_35 : decode cX11_lose 35 = .ok (.putfield 71, 3) := by decide +kernel
theorem dX11_lose_38 : decode cX11_lose 38 = .ok (.aload_n 0, 1) := by decide +kernel
theorem dX11_lose_39 : decode cX11_lose 39 = .ok (.getfield 33, 3) := by decide +kernel
theorem dX11_lose_42 : decode cX11_lose 42 = .ok (.iload_n 1, 1) := by decide +kernel
theorem dX11_lose_43 : decode cX11_lose 43 = .ok (.aaload, 1) := by decide +kernel
theorem dX11_lose_44 : decode cX11_lose 44 = .ok (.getfield 79, 3) := by decide +kernel
theorem dX11_lose_47 : decode cX11_lose 47 = .ok (.ireturn, 1) := by decide +kernel
theorem dX11_put_0 : decode cX11_put 0 = .ok (.iload_n 1, 1) := by decide +kernel
theorem dX11_put_1 : decode cX11_put 1 = .ok (.invokestatic 67, 3) := by decide +kernel
theorem dX11_put_4 : decode cX11_put 4 = .ok (.ifCond .eq 10, 3) := by decide +kernel
theorem dX11_put_7 : decode cX11_put 7 = .ok (.iload_n 2, 1) := by decide +kernel
theorem dX11_put_8 : decode cX11_put 8 = .ok (.invokestatic 255, 3) := by decide +kernel
theorem dX11_put_11 : decode cX11_put 11 = .ok (.ifCond .ne 6, 3) := by decide +kernel
theorem dX11_put_14 : decode cX11_put 14 = .ok (.bipush (-2), 2) := by decide +kernel
theorem dX11_put_16 : decode cX11_put 16 = .ok (.ireturn, 1) := by decide +kernel
theorem dX11_put_17 : decode cX11_put 17 = .ok (.aload_n 0, 1) := by decide +kernel
theorem dX11_put_18 : decode cX11_put 18 = .ok (.getfield 33, 3) := by decide +kernel
theorem dX11_put_21 : decode cX11_put 21 = .ok (.iload_n 1, 1) := by decide +kernel
theorem dX11_put_22 : decode cX11_put 22 = .ok (.aaload, 1) := by decide +kernel
theorem dX11_put_23 : decode cX11_put 23 = .ok (.iload_n 2, 1) := by decide +kernel
theorem dX11_put_24 : decode cX11_put 24 = .ok (.iload_n 3, 1) := by decide +kernel
theorem dX11_put_25 : decode cX11_put 25 = .ok (.invokevirtual 262, 3) := by decide +kernel
theorem dX11_put_28 : decode cX11_put 28 = .ok (.istore 5, 2) := by decide +kernel
theorem dX11_put_30 : decode cX11_put 30 = .ok (.iload 5, 2) := by decide +kernel
theorem dX11_put_32 : decode cX11_put 32 = .ok (.ifCond .le 10, 3) := by decide +kernel
theorem dX11_put_35 : decode cX11_put 35 = .ok (.aload_n 0, 1) := by decide +kernel
theorem dX11_put_36 : decode cX11_put 36 = .ok (.iload 5, 2) := by decide +kernel
theorem dX11_put_38 : decode cX11_put 38 = .ok (.invokevirtual 75, 3) := by decide +kernel
theorem dX11_put_41 : decode cX11_put 41 = .ok (.ireturn, 1) := by decide +kernel
theorem dX11_put_42 : decode cX11_put 42 = .ok (.aload_n 0, 1) := by decide +kernel
theorem dX11_put_43 : decode cX11_put 43 = .ok (.getfield 33, 3) := by decide +kernel
theorem dX11_put_46 : decode cX11_put 46 = .ok (.iload_n 1, 1) := by decide +kernel
theorem dX11_put_47 : decode cX11_put 47 = .ok (.aaload, 1) := by decide +kernel
theorem dX11_put_48 : decode cX11_put 48 = .ok (.iload_n 3, 1) := by decide +kernel
theorem dX11_put_49 : decode cX11_put 49 = .ok (.iload 4, 2) := by decide +kernel
theorem dX11_put_51 : decode cX11_put 51 = .ok (.invokevirtual 265, 3) := by decide +kernel
theorem dX11_put_54 : decode cX11_put 54 = .ok (.iconst 1, 1) := by decide +kernel
theorem dX11_put_55 : decode cX11_put 55 = .ok (.ireturn, 1) := by decide +kernel
theorem dX11_get_0 : decode cX11_get 0 = .ok (.iload_n 1, 1) := by decide +kernel
theorem dX11_get_1 : decode cX11_get 1 = .ok (.invokestatic 67, 3) := by decide +kernel
theorem dX11_get_4 : decode cX11_get 4 = .ok (.ifCond .eq 10, 3) := by decide +kernel
theorem dX11_get_7 : decode cX11_get 7 = .ok (.iload_n 2, 1) := by decide +kernel
theorem dX11_get_8 : decode cX11_get 8 = .ok (.invokestatic 255, 3) := by decide +kernel
theorem dX11_get_11 : decode cX11_get 11 = .ok (.ifCond .ne 7, 3) := by decide +kernel
theorem dX11_get_14 : decode cX11_get 14 = .ok (.ldc_w 268, 3) := by decide +kernel
theorem dX11_get_17 : decode cX11_get 17 = .ok (.ireturn, 1) := by decide +kernel
theorem dX11_get_18 : decode cX11_get 18 = .ok (.aload_n 0, 1) := by decide +kernel
theorem dX11_get_19 : decode cX11_get 19 = .ok (.getfield 33, 3) := by decide +kernel
theorem dX11_get_22 : decode cX11_get 22 = .ok (.iload_n 1, 1) := by decide +kernel
theorem dX11_get_23 : decode cX11_get 23 = .ok (.aaload, 1) := by decide +kernel
theorem dX11_get_24 : decode cX11_get 24 = .ok (.iload_n 2, 1) := by decide +kernel
theorem dX11_get_25 : decode cX11_get 25 = .ok (.iload_n 3, 1) := by decide +kernel
theorem dX11_get_26 : decode cX11_get 26 = .ok (.invokevirtual 262, 3) := by decide +kernel
theorem dX11_get_29 : decode cX11_get 29 = .ok (.istore 4, 2) := by decide +kernel
theorem dX11_get_31 : decode cX11_get 31 = .ok (.iload 4, 2) := by decide +kernel
theorem dX11_get_33 : decode cX11_get 33 = .ok (.ifCond .le 13, 3) := by decide +kernel
theorem dX11_get_36 : decode cX11_get 36 = .ok (.aload_n 0, 1) := by decide +kernel
theorem dX11_get_37 : decode cX11_get 37 = .ok (.iload 4, 2) := by decide +kernel
theorem dX11_get_39 : decode cX11_get 39 = .ok (.putfield 269, 3) := by decide +kernel
theorem dX11_get_42 : decode cX11_get 42 = .ok (.ldc_w 268, 3) := by decide +kernel
theorem dX11_get_45 : decode cX11_get 45 = .ok (.ireturn, 1) := by decide +kernel
theorem dX11_get_46 : decode cX11_get 46 = .ok (.aload_n 0, 1) := by decide +kernel
theorem dX11_get_47 : decode cX11_get 47 = .ok (.getfield 33, 3) := by decide +kernel
theorem dX11_get_50 : decode cX11_get 50 = .ok (.iload_n 1, 1) := by decide +kernel
theorem dX11_get_51 : decode cX11_get 51 = .ok (.aaload, 1) := by decide +kernel
theorem dX11_get_52 : decode cX11_get 52 = .ok (.getfield 83, 3) := by decide +kernel
theorem dX11_get_55 : decode cX11_get 55 = .ok (.iload_n 3, 1) := by decide +kernel
theorem dX11_get_56 : decode cX11_get 56 = .ok (.iaload, 1) := by decide +kernel
theorem dX11_get_57 : decode cX11_get 57 = .ok (.ireturn, 1) := by decide +kernel
theorem dX11_copy_0 : decode cX11_copy 0 = .ok (.iload_n 1, 1) := by decide +kernel
theorem dX11_copy_1 : decode cX11_copy 1 = .ok (.invokestatic 67, 3) := by decide +kernel
theorem dX11_copy_4 : decode cX11_copy 4 = .ok (.ifCond .eq 10, 3) := by decide +kernel
theorem dX11_copy_7 : decode cX11_copy 7 = .ok (.iload_n 3, 1) := by decide +kernel
theorem dX11_copy_8 : decode cX11_copy 8 = .ok (.invokestatic 67, 3) := by decide +kernel
theorem dX11_copy_11 : decode cX11_copy 11 = .ok (.ifCond .ne 6, 3) := by decide +kernel
theorem dX11_copy_14 : decode cX11_copy 14 = .ok (.bipush (-2), 2) := by decide +kernel
theorem dX11_copy_16 : decode cX11_copy 16 = .ok (.ireturn, 1) := by decide +kernel
theorem dX11_copy_17 : decode cX11_copy 17 = .ok (.aload_n 0, 1) := by decide +kernel
theorem dX11_copy_18 : decode cX11_copy 18 = .ok (.getfield 33, 3) := by decide +kernel
theorem dX11_copy_21 : decode cX11_copy 21 = .ok (.iload_n 1, 1) := by decide +kernel
theorem dX11_copy_22 : decode cX11_copy 22 = .ok (.aaload, 1) := by decide +kernel
theorem dX11_copy_23 : decode cX11_copy 23 = .ok (.astore 6, 2) := by decide +kernel
theorem dX11_copy_25 : decode cX11_copy 25 = .ok (.aload_n 0, 1) := by decide +kernel
theorem dX11_copy_26 : decode cX11_copy 26 = .ok (.getfield 33, 3) := by decide +kernel
theorem dX11_copy_29 : decode cX11_copy 29 = .ok (.iload_n 3, 1) := by decide +kernel
theorem dX11_copy_30 : decode cX11_copy 30 = .ok (.aaload, 1) := by decide +kernel
theorem dX11_copy_31 : decode cX11_copy 31 = .ok (.astore 7, 2) := by decide +kernel
theorem dX11_copy_33 : decode cX11_copy 33 = .ok (.aload 6, 2) := by decide +kernel
theorem dX11_copy_35 : decode cX11_copy 35 = .ok (.getfield 71, 3) := by decide +kernel
theorem dX11_copy_38 : decode cX11_copy 38 = .ok (.ifCond .ne 11, 3) := by decide +kernel
theorem dX11_copy_41 : decode cX11_copy 41 = .ok (.aload 7, 2) := by decide +kernel
theorem dX11_copy_43 : decode cX11_copy 43 = .ok (.getfield 71, 3) := by decide +kernel
theorem dX11_copy_46 : decode cX11_copy 46 = .ok (.ifCond .eq 9, 3) := by decide +kernel
theorem dX11_copy_49 : decode cX11_copy 49 = .ok (.aload_n 0, 1) := by decide +kernel
theorem dX11_copy_50 : decode cX11_copy 50 = .ok (.iconst 1, 1) := by decide +kernel
theorem dX11_copy_51 : decode cX11_copy 51 = .ok (.invokevirtual 75, 3) := by decide +kernel
theorem dX11_copy_54 : decode cX11_copy 54 = .ok (.ireturn, 1) := by decide +kernel
theorem dX11_copy_55 : decode cX11_copy 55 = .ok (.aload 6, 2) := by decide +kernel
theorem dX11_copy_57 : decode cX11_copy 57 = .ok (.getfield 272, 3) := by decide +kernel
theorem dX11_copy_60 : decode cX11_copy 60 = .ok (.aload 7, 2) := by decide +kernel
theorem dX11_copy_62 : decode cX11_copy 62 = .ok (.getfield 272, 3) := by decide +kernel
theorem dX11_copy_65 : decode cX11_copy 65 = .ok (.if_icmp .eq 9, 3) := by decide +kernel
theorem dX11_copy_68 : decode cX11_copy 68 = .ok (.aload_n 0, 1) := by decide +kernel
theorem dX11_copy_69 : decode cX11_copy 69 = .ok (.iconst 4, 1) := by decide +kernel
theorem dX11_copy_70 : decode cX11_copy 70 = .ok (.invokevirtual 75, 3) := by decide +kernel
theorem dX11_copy_73 : decode cX11_copy 73 = .ok (.ireturn, 1) := by decide +kernel
theorem dX11_copy_74 : decode cX11_copy 74 = .ok (.aload 6, 2) := by decide +kernel
theorem dX11_copy_76 : decode cX11_copy 76 = .ok (.iload_n 2, 1) := by decide +kernel
theorem dX11_copy_77 : decode cX11_copy 77 = .ok (.iload 5, 2) := by decide +kernel
theorem dX11_copy_79 : decode cX11_copy 79 = .ok (.invokevirtual 275, 3) := by decide +kernel
theorem dX11_copy_82 : decode cX11_copy 82 = .ok (.ifCond .eq 15, 3) := by decide +kernel
theorem dX11_copy_85 : decode cX11_copy 85 = .ok (.aload 7, 2) := by decide +kernel
theorem dX11_copy_87 : decode cX11_copy 87 = .ok (.iload 4, 2) := by decide +kernel
theorem dX11_copy_89 : decode cX11_copy 89 = .ok (.iload 5, 2) := by decide +kernel
theorem dX11_copy_91 : decode cX11_copy 91 = .ok (.invokevirtual 275, 3) := by decide +kernel
theorem dX11_copy_94 : decode cX11_copy 94 = .ok (.ifCond .ne 9, 3) := by decide +kernel
theorem dX11_copy_97 : decode cX11_copy 97 = .ok (.aload_n 0, 1) := by decide +kernel
theorem dX11_copy_98 : decode cX11_copy 98 = .ok (.iconst 2, 1) := by decide +kernel
theorem dX11_copy_99 : decode cX11_copy 99 = .ok (.invokevirtual 75, 3) := by decide +kernel
theorem dX11_copy_102 : decode cX11_copy 102 = .ok (.ireturn, 1) := by decide +kernel
theorem dX11_copy_103 : decode cX11_copy 103 = .ok (.aload 6, 2) := by decide +kernel
theorem dX11_copy_105 : decode cX11_copy 105 = .ok (.getfield 83, 3) := by decide +kernel
theorem dX11_copy_108 : decode cX11_copy 108 = .ok (.iload_n 2, 1) := by decide +kernel
theorem dX11_copy_109 : decode cX11_copy 109 = .ok (.aload 7, 2) := by decide +kernel
theorem dX11_copy_111 : decode cX11_copy 111 = .ok (.getfield 83, 3) := by decide +kernel
theorem dX11_copy_114 : decode cX11_copy 114 = .ok (.iload 4, 2) := by decide +kernel
theorem dX11_copy_116 : decode cX11_copy 116 = .ok (.iload 5, 2) := by decide +kernel
theorem dX11_copy_118 : decode cX11_copy 118 = .ok (.invokestatic 279, 3) := by decide +kernel
theorem dX11_copy_121 : decode cX11_copy 121 = .ok (.iconst 1, 1) := by decide +kernel
theorem dX11_copy_122 : decode cX11_copy 122 = .ok (.ireturn, 1) := by decide +kernel
theorem dX11_write_0 : decode cX11_write 0 = .ok (.iload_n 1, 1) := by decide +kernel
theorem dX11_write_1 : decode cX11_write 1 = .ok (.invokestatic 67, 3) := by decide +kernel
theorem dX11_write_4 : decode cX11_write 4 = .ok (.ifCond .eq 14, 3) := by decide +kernel
theorem dX11_write_7 : decode cX11_write 7 = .ok (.aload_n 0, 1) := by decide +kernel
theorem dX11_write_8 : decode cX11_write 8 = .ok (.getfield 10, 3) := by decide +kernel
theorem dX11_write_11 : decode cX11_write 11 = .ok (.iload_n 2, 1) := by decide +kernel
theorem dX11_write_12 : decode cX11_write 12 = .ok (.invokevirtual 186, 3) := by decide +kernel
theorem dX11_write_15 : decode cX11_write 15 = .ok (.ifCond .ne 6, 3) := by decide +kernel
theorem dX11_write_18 : decode cX11_write 18 = .ok (.bipush (-2), 2) := by decide +kernel
theorem dX11_write_20 : decode cX11_write 20 = .ok (.ireturn, 1) := by decide +kernel
theorem dX11_write_21 : decode cX11_write 21 = .ok (.aload_n 0, 1) := by decide +kernel
theorem dX11_write_22 : decode cX11_write 22 = .ok (.getfield 33, 3) := by decide +kernel
theorem dX11_write_25 : decode cX11_write 25 = .ok (.iload_n 1, 1) := by decide +kernel
theorem dX11_write_26 : decode cX11_write 26 = .ok (.aaload, 1) := by decide +kernel
theorem dX11_write_27 : decode cX11_write 27 = .ok (.astore_n 3, 1) := by decide +kernel
theorem dX11_write_28 : decode cX11_write 28 = .ok (.aload_n 3, 1) := by decide +kernel
theorem dX11_write_29 : decode cX11_write 29 = .ok (.getfield 71, 3) := by decide +kernel
theorem dX11_write_32 : decode cX11_write 32 = .ok (.ifCond .eq 9, 3) := by decide +kernel
theorem dX11_write_35 : decode cX11_write 35 = .ok (.aload_n 0, 1) := by decide +kernel
theorem dX11_write_36 : decode cX11_write 36 = .ok (.iconst 1, 1) := by decide +kernel
theorem dX11_write_37 : decode cX11_write 37 = .ok (.invokevirtual 75, 3) := by decide +kernel
theorem dX11_write_40 : decode cX11_write 40 = .ok (.ireturn, 1) := by decide +kernel
theorem dX11_write_41 : decode cX11_write 41 = .ok (.iconst 0, 1) := by decide +kernel
theorem dX11_write_42 : decode cX11_write 42 = .ok (.istore 4, 2) := by decide +kernel
theorem dX11_write_44 : decode cX11_write 44 = .ok (.iconst 0, 1) := by decide +kernel
theorem dX11_write_45 : decode cX11_write 45 = .ok (.istore 5, 2) := by decide +kernel
theorem dX11_write_47 : decode cX11_write 47 = .ok (.iload 5, 2) := by decide +kernel
theorem dX11_write_49 : decode cX11_write 49 = .ok (.aload_n 0, 1) := by decide +kernel
theorem dX11_write_50 : decode cX11_write 50 = .ok (.getfield 10, 3) := by decide +kernel
theorem dX11_write_53 : decode cX11_write 53 = .ok (.getfield 130, 3) := by decide +kernel
theorem dX11_write_56 : decode cX11_write 56 = .ok (.if_icmp .ge 38, 3) := by decide +kernel
theorem dX11_write_59 : decode cX11_write 59 = .ok (.iload 4, 2) := by decide +kernel
theorem dX11_write_61 : decode cX11_write 61 = .ok (.aload_n 3, 1) := by decide +kernel
theorem dX11_write_62 : decode cX11_write 62 = .ok (.getfield 79, 3) := by decide +kernel
theorem dX11_write_65 : decode cX11_write 65 = .ok (.if_icmp .ge 29, 3) := by decide +kernel
theorem dX11_write_68 : decode cX11_write 68 = .ok (.iload_n 2, 1) := by decide +kernel
theorem dX11_write_69 : decode cX11_write 69 = .ok (.iload 5, 2) := by decide +kernel
theorem dX11_write_71 : decode cX11_write 71 = .ok (.invokestatic 285, 3) := by decide +kernel
theorem dX11_write_74 : decode cX11_write 74 = .ok (.ifCond .eq 14, 3) := by decide +kernel
theorem dX11_write_77 : decode cX11_write 77 = .ok (.aload_n 3, 1) := by decide +kernel
theorem dX11_write_78 : decode cX11_write 78 = .ok (.iload 4, 2) := by decide +kernel
theorem dX11_write_80 : decode cX11_write 80 = .ok (.iload 5, 2) := by decide +kernel
theorem dX11_write_82 : decode cX11_write 82 = .ok (.invokevirtual 265, 3) := by decide +kernel
theorem dX11_write_85 : decode cX11_write 85 = .ok (.iinc 4 1, 3) := by decide +kernel
theorem dX11_write_88 : decode cX11_write 88 = .ok (.iinc 5 1, 3) := by decide +kernel
theorem dX11_write_91 : decode cX11_write 91 = .ok (.goto (-44), 3) := by decide +kernel
theorem dX11_write_94 : decode cX11_write 94 = .ok (.iload 4, 2) := by decide +kernel
theorem dX11_write_96 : decode cX11_write 96 = .ok (.ireturn, 1) := by decide +kernel
theorem dX11_count_0 : decode cX11_count 0 = .ok (.iload_n 1, 1) := by decide +kernel
theorem dX11_count_1 : decode cX11_count 1 = .ok (.tableswitch 118 0 9 #[55, 63, 74, 82, 90, 90, 90, 90, 102, 107], 55) := by decide +kernel
theorem dX11_count_56 : decode cX11_count 56 = .ok (.aload_n 0, 1) := by decide +kernel
theorem dX11_count_57 : decode cX11_count 57 = .ok (.getfield 10, 3) := by decide +kernel
theorem dX11_count_60 : decode cX11_count 60 = .ok (.getfield 130, 3) := by decide +kernel
theorem dX11_count_63 : decode cX11_count 63 = .ok (.ireturn, 1) := by decide +kernel
theorem dX11_count_64 : decode cX11_count 64 = .ok (.aload_n 0, 1) := by decide +kernel
theorem dX11_count_65 : decode cX11_count 65 = .ok (.getfield 10, 3) := by decide +kernel
theorem dX11_count_68 : decode cX11_count 68 = .ok (.getfield 200, 3) := by decide +kernel
theorem dX11_count_71 : decode cX11_count 71 = .ok (.invokestatic 119, 3) := by decide +kernel
theorem dX11_count_74 : decode cX11_count 74 = .ok (.ireturn, 1) := by decide +kernel
theorem dX11_count_75 : decode cX11_count 75 = .ok (.aload_n 0, 1) := by decide +kernel
theorem dX11_count_76 : decode cX11_count 76 = .ok (.getfield 21, 3) := by decide +kernel
theorem dX11_count_79 : decode cX11_count 79 = .ok (.getfield 288, 3) := by decide +kernel
theorem dX11_count_82 : decode cX11_count 82 = .ok (.ireturn, 1) := by decide +kernel
theorem dX11_count_83 : decode cX11_count 83 = .ok (.aload_n 0, 1) := by decide +kernel
theorem dX11_count_84 : decode cX11_count 84 = .ok (.getfield 21, 3) := by decide +kernel
theorem dX11_count_87 : decode cX11_count 87 = .ok (.getfield 290, 3) := by decide +kernel
theorem dX11_count_90 : decode cX11_count 90 = .ok (.ireturn, 1) := by decide +kernel
theorem dX11_count_91 : decode cX11_count 91 = .ok (.aload_n 0, 1) := by decide +kernel
theorem dX11_count_92 : decode cX11_count 92 = .ok (.getfield 27, 3) := by decide +kernel
theorem dX11_count_95 : decode cX11_count 95 = .ok (.iload_n 1, 1) := by decide +kernel
theorem dX11_count_96 : decode cX11_count 96 = .ok (.iconst 4, 1) := by decide +kernel
theorem dX11_count_97 : decode cX11_count 97 = .ok (.isub, 1) := by decide +kernel
theorem dX11_count_98 : decode cX11_count 98 = .ok (.aaload, 1) := by decide +kernel
theorem dX11_count_99 : decode cX11_count 99 = .ok (.getfield 293, 3) := by decide +kernel
theorem dX11_count_102 : decode cX11_count 102 = .ok (.ireturn, 1) := by decide +kernel
theorem dX11_count_103 : decode cX11_count 103 = .ok (.aload_n 0, 1) := by decide +kernel
theorem dX11_count_104 : decode cX11_count 104 = .ok (.getfield 269, 3) := by decide +kernel
theorem dX11_count_107 : decode cX11_count 107 = .ok (.ireturn, 1) := by decide +kernel
theorem dX11_count_108 : decode cX11_count 108 = .ok (.aload_n 0, 1) := by decide +kernel
theorem dX11_count_109 : decode cX11_count 109 = .ok (.getfield 10, 3) := by decide +kernel
theorem dX11_count_112 : decode cX11_count 112 = .ok (.getfield 294, 3) := by decide +kernel
theorem dX11_count_115 : decode cX11_count 115 = .ok (.invokestatic 119, 3) := by decide +kernel
theorem dX11_count_118 : decode cX11_count 118 = .ok (.ireturn, 1) := by decide +kernel
theorem dX11_count_119 : decode cX11_count 119 = .ok (.bipush (-2), 2) := by decide +kernel
theorem dX11_count_121 : decode cX11_count 121 = .ok (.ireturn, 1) := by decide +kernel
theorem dX11_digest_0 : decode cX11_digest 0 = .ok (.ldc2_w 297, 3) := by decide +kernel
theorem dX11_digest_3 : decode cX11_digest 3 = .ok (.lstore_n 1, 1) := by decide +kernel
theorem dX11_digest_4 : decode cX11_digest 4 = .ok (.iconst 0, 1) := by decide +kernel
theorem dX11_digest_5 : decode cX11_digest 5 = .ok (.istore_n 3, 1) := by decide +kernel
theorem dX11_digest_6 : decode cX11_digest 6 = .ok (.iload_n 3, 1) := by decide +kernel
theorem dX11_digest_7 : decode cX11_digest 7 = .ok (.bipush 9, 2) := by decide +kernel
theorem dX11_digest_9 : decode cX11_digest 9 = .ok (.if_icmp .gt 28, 3) := by decide +kernel
theorem dX11_digest_12 : decode cX11_digest 12 = .ok (.iload_n 3, 1) := by decide +kernel
theorem dX11_digest_13 : decode cX11_digest 13 = .ok (.bipush 8, 2) := by decide +kernel
theorem dX11_digest_15 : decode cX11_digest 15 = .ok (.if_icmp .eq 16, 3) := by decide +kernel
theorem dX11_digest_18 : decode cX11_digest 18 = .ok (.ldc2_w 299, 3) := by decide +kernel
theorem dX11_digest_21 : decode cX11_digest 21 = .ok (.lload_n 1, 1) := by decide +kernel
theorem dX11_digest_22 : decode cX11_digest 22 = .ok (.lmul, 1) := by decide +kernel
theorem dX11_digest_23 : decode cX11_digest 23 = .ok (.aload_n 0, 1) := by decide +kernel
theorem dX11_digest_24 : decode cX11_digest 24 = .ok (.iload_n 3, 1) := by decide +kernel
theorem dX11_digest_25 : decode cX11_digest 25 = .ok (.invokevirtual 301, 3) := by decide +kernel
theorem dX11_digest_28 : decode cX11_digest 28 = .ok (.i2l, 1) := by decide +kernel
theorem dX11_digest_29 : decode cX11_digest 29 = .ok (.ladd, 1) := by decide +kernel
theorem dX11_digest_30 : decode cX11_digest 30 = .ok (.lstore_n 1, 1) := by decide +kernel
theorem dX11_digest_31 : decode cX11_digest 31 = .ok (.iinc 3 1, 3) := by decide +kernel
theorem dX11_digest_34 : decode cX11_digest 34 = .ok (.goto (-28), 3) := by decide +kernel
theorem dX11_digest_37 : decode cX11_digest 37 = .ok (.iconst 0, 1) := by decide +kernel
theorem dX11_digest_38 : decode cX11_digest 38 = .ok (.istore_n 3, 1) := by decide +kernel
theorem dX11_digest_39 : decode cX11_digest 39 = .ok (.iload_n 3, 1) := by decide +kernel
theorem dX11_digest_40 : decode cX11_digest 40 = .ok (.aload_n 0, 1) := by decide +kernel
theorem dX11_digest_41 : decode cX11_digest 41 = .ok (.getfield 10, 3) := by decide +kernel
theorem dX11_digest_44 : decode cX11_digest 44 = .ok (.getfield 130, 3) := by decide +kernel
theorem dX11_digest_47 : decode cX11_digest 47 = .ok (.if_icmp .ge 39, 3) := by decide +kernel
theorem dX11_digest_50 : decode cX11_digest 50 = .ok (.iconst 0, 1) := by decide +kernel
theorem dX11_digest_51 : decode cX11_digest 51 = .ok (.istore 4, 2) := by decide +kernel
theorem dX11_digest_53 : decode cX11_digest 53 = .ok (.iload 4, 2) := by decide +kernel
theorem dX11_digest_55 : decode cX11_digest 55 = .ok (.iconst 4, 1) := by decide +kernel
theorem dX11_digest_56 : decode cX11_digest 56 = .ok (.if_icmp .gt 24, 3) := by decide +kernel
theorem dX11_digest_59 : decode cX11_digest 59 = .ok (.ldc2_w 299, 3) := by decide +kernel
theorem dX11_digest_62 : decode cX11_digest 62 = .ok (.lload_n 1, 1) := by decide +kernel
theorem dX11_digest_63 : decode cX11_digest 63 = .ok (.lmul, 1) := by decide +kernel
theorem dX11_digest_64 : decode cX11_digest 64 = .ok (.aload_n 0, 1) := by decide +kernel
theorem dX11_digest_65 : decode cX11_digest 65 = .ok (.iload_n 3, 1) := by decide +kernel
theorem dX11_digest_66 : decode cX11_digest 66 = .ok (.iload 4, 2) := by decide +kernel
theorem dX11_digest_68 : decode cX11_digest 68 = .ok (.invokevirtual 303, 3) := by decide +kernel
theorem dX11_digest_71 : decode cX11_digest 71 = .ok (.i2l, 1) := by decide +kernel
theorem dX11_digest_72 : decode cX11_digest 72 = .ok (.ladd, 1) := by decide +kernel
theorem dX11_digest_73 : decode cX11_digest 73 = .ok (.lstore_n 1, 1) := by decide +kernel
theorem dX11_digest_74 : decode cX11_digest 74 = .ok (.iinc 4 1, 3) := by decide +kernel
theorem dX11_digest_77 : decode cX11_digest 77 = .ok (.goto (-24), 3) := by decide +kernel
theorem dX11_digest_80 : decode cX11_digest 80 = .ok (.iinc 3 1, 3) := by decide +kernel
theorem dX11_digest_83 : decode cX11_digest 83 = .ok (.goto (-44), 3) := by decide +kernel
theorem dX11_digest_86 : decode cX11_digest 86 = .ok (.iconst 0, 1) := by decide +kernel
theorem dX11_digest_87 : decode cX11_digest 87 = .ok (.istore_n 3, 1) := by decide +kernel
theorem dX11_digest_88 : decode cX11_digest 88 = .ok (.iload_n 3, 1) := by decide +kernel
theorem dX11_digest_89 : decode cX11_digest 89 = .ok (.iconst 4, 1) := by decide +kernel
theorem dX11_digest_90 : decode cX11_digest 90 = .ok (.if_icmp .ge 16, 3) := by decide +kernel
theorem dX11_digest_93 : decode cX11_digest 93 = .ok (.aload_n 0, 1) := by decide +kernel
theorem dX11_digest_94 : decode cX11_digest 94 = .ok (.lload_n 1, 1) := by decide +kernel
theorem dX11_digest_95 : decode cX11_digest 95 = .ok (.iload_n 3, 1) := by decide +kernel
theorem dX11_digest_96 : decode cX11_digest 96 = .ok (.invokevirtual 306, 3) := by decide +kernel
theorem dX11_digest_99 : decode cX11_digest 99 = .ok (.lstore_n 1, 1) := by decide +kernel
theorem dX11_digest_100 : decode cX11_digest 100 = .ok (.iinc 3 1, 3) := by decide +kernel
theorem dX11_digest_103 : decode cX11_digest 103 = .ok (.goto (-15), 3) := by decide +kernel
theorem dX11_digest_106 : decode cX11_digest 106 = .ok (.lload_n 1, 1) := by decide +kernel
theorem dX11_digest_107 : decode cX11_digest 107 = .ok (.lreturn, 1) := by decide +kernel
theorem dX11_digestOfPlan_0 : decode cX11_digestOfPlan 0 = .ok (.ldc2_w 299, 3) := by decide +kernel
theorem dX11_digestOfPlan_3 : decode cX11_digestOfPlan 3 = .ok (.lload_n 1, 1) := by decide +kernel
theorem dX11_digestOfPlan_4 : decode cX11_digestOfPlan 4 = .ok (.lmul, 1) := by decide +kernel
theorem dX11_digestOfPlan_5 : decode cX11_digestOfPlan 5 = .ok (.aload_n 0, 1) := by decide +kernel
theorem dX11_digestOfPlan_6 : decode cX11_digestOfPlan 6 = .ok (.iload_n 3, 1) := by decide +kernel
theorem dX11_digestOfPlan_7 : decode cX11_digestOfPlan 7 = .ok (.invokevirtual 310, 3) := by decide +kernel
theorem dX11_digestOfPlan_10 : decode cX11_digestOfPlan 10 = .ok (.i2l, 1) := by decide +kernel
theorem dX11_digestOfPlan_11 : decode cX11_digestOfPlan 11 = .ok (.ladd, 1) := by decide +kernel
theorem dX11_digestOfPlan_12 : decode cX11_digestOfPlan 12 = .ok (.lstore 4, 2) := by decide +kernel
theorem dX11_digestOfPlan_14 : decode cX11_digestOfPlan 14 = .ok (.ldc2_w 299, 3) := by decide +kernel
theorem dX11_digestOfPlan_17 : decode cX11_digestOfPlan 17 = .ok (.lload 4, 2) := by decide +kernel
theorem dX11_digestOfPlan_19 : decode cX11_digestOfPlan 19 = .ok (.lmul, 1) := by decide +kernel
theorem dX11_digestOfPlan_20 : decode cX11_digestOfPlan 20 = .ok (.aload_n 0, 1) := by decide +kernel
theorem dX11_digestOfPlan_21 : decode cX11_digestOfPlan 21 = .ok (.iload_n 3, 1) := by decide +kernel
theorem dX11_digestOfPlan_22 : decode cX11_digestOfPlan 22 = .ok (.invokevirtual 313, 3) := by decide +kernel
theorem dX11_digestOfPlan_25 : decode cX11_digestOfPlan 25 = .ok (.i2l, 1) := by decide +kernel
theorem dX11_digestOfPlan_26 : decode cX11_digestOfPlan 26 = .ok (.ladd, 1) := by decide +kernel
theorem dX11_digestOfPlan_27 : decode cX11_digestOfPlan 27 = .ok (.lstore 4, 2) := by decide +kernel
theorem dX11_digestOfPlan_29 : decode cX11_digestOfPlan 29 = .ok (.ldc2_w 299, 3) := by decide +kernel
theorem dX11_digestOfPlan_32 : decode cX11_digestOfPlan 32 = .ok (.lload 4, 2) := by decide +kernel
theorem dX11_digestOfPlan_34 : decode cX11_digestOfPlan 34 = .ok (.lmul, 1) := by decide +kernel
theorem dX11_digestOfPlan_35 : decode cX11_digestOfPlan 35 = .ok (.aload_n 0, 1) := by decide +kernel
theorem dX11_digestOfPlan_36 : decode cX11_digestOfPlan 36 = .ok (.iload_n 3, 1) := by decide +kernel
theorem dX11_digestOfPlan_37 : decode cX11_digestOfPlan 37 = .ok (.invokevirtual 316, 3) := by decide +kernel
theorem dX11_digestOfPlan_40 : decode cX11_digestOfPlan 40 = .ok (.ladd, 1) := by decide +kernel
theorem dX11_digestOfPlan_41 : decode cX11_digestOfPlan 41 = .ok (.lstore 4, 2) := by decide +kernel
theorem dX11_digestOfPlan_43 : decode cX11_digestOfPlan 43 = .ok (.aload_n 0, 1) := by decide +kernel
theorem dX11_digestOfPlan_44 : decode cX11_digestOfPlan 44 = .ok (.iload_n 3, 1) := by decide +kernel
theorem dX11_digestOfPlan_45 : decode cX11_digestOfPlan 45 = .ok (.invokevirtual 313, 3) := by decide +kernel
theorem dX11_digestOfPlan_48 : decode cX11_digestOfPlan 48 = .ok (.iconst 1, 1) := by decide +kernel
theorem dX11_digestOfPlan_49 : decode cX11_digestOfPlan 49 = .ok (.if_icmp .eq 6, 3) := by decide +kernel
theorem dX11_digestOfPlan_52 : decode cX11_digestOfPlan 52 = .ok (.lload 4, 2) := by decide +kernel
theorem dX11_digestOfPlan_54 : decode cX11_digestOfPlan 54 = .ok (.lreturn, 1) := by decide +kernel
theorem dX11_digestOfPlan_55 : decode cX11_digestOfPlan 55 = .ok (.ldc2_w 299, 3) := by decide +kernel
theorem dX11_digestOfPlan_58 : decode cX11_digestOfPlan 58 = .ok (.lload 4, 2) := by decide +kernel
theorem dX11_digestOfPlan_60 : decode cX11_digestOfPlan 60 = .ok (.lmul, 1) := by decide +kernel
theorem dX11_digestOfPlan_61 : decode cX11_digestOfPlan 61 = .ok (.aload_n 0, 1) := by decide +kernel
theorem dX11_digestOfPlan_62 : decode cX11_digestOfPlan 62 = .ok (.iload_n 3, 1) := by decide +kernel
theorem dX11_digestOfPlan_63 : decode cX11_digestOfPlan 63 = .ok (.iconst 1, 1) := by decide +kernel
theorem dX11_digestOfPlan_64 : decode cX11_digestOfPlan 64 = .ok (.invokevirtual 319, 3) := by decide +kernel
theorem dX11_digestOfPlan_67 : decode cX11_digestOfPlan 67 = .ok (.i2l, 1) := by decide +kernel
theorem dX11_digestOfPlan_68 : decode cX11_digestOfPlan 68 = .ok (.ladd, 1) := by decide +kernel
theorem dX11_digestOfPlan_69 : decode cX11_digestOfPlan 69 = .ok (.lstore 4, 2) := by decide +kernel
theorem dX11_digestOfPlan_71 : decode cX11_digestOfPlan 71 = .ok (.iconst 0, 1) := by decide +kernel
theorem dX11_digestOfPlan_72 : decode cX11_digestOfPlan 72 = .ok (.istore 6, 2) := by decide +kernel
theorem dX11_digestOfPlan_74 : decode cX11_digestOfPlan 74 = .ok (.iload 6, 2) := by decide +kernel
theorem dX11_digestOfPlan_76 : decode cX11_digestOfPlan 76 = .ok (.aload_n 0, 1) := by decide +kernel
theorem dX11_digestOfPlan_77 : decode cX11_digestOfPlan 77 = .ok (.getfield 10, 3) := by decide +kernel
theorem dX11_digestOfPlan_80 : decode cX11_digestOfPlan 80 = .ok (.getfield 130, 3) := by decide +kernel
theorem dX11_digestOfPlan_83 : decode cX11_digestOfPlan 83 = .ok (.if_icmp .ge 43, 3) := by decide +kernel
theorem dX11_digestOfPlan_86 : decode cX11_digestOfPlan 86 = .ok (.ldc2_w 299, 3) := by decide +kernel
theorem dX11_digestOfPlan_89 : decode cX11_digestOfPlan 89 = .ok (.lload 4, 2) := by decide +kernel
theorem dX11_digestOfPlan_91 : decode cX11_digestOfPlan 91 = .ok (.lmul, 1) := by decide +kernel
theorem dX11_digestOfPlan_92 : decode cX11_digestOfPlan 92 = .ok (.aload_n 0, 1) := by decide +kernel
theorem dX11_digestOfPlan_93 : decode cX11_digestOfPlan 93 = .ok (.iload_n 3, 1) := by decide +kernel
theorem dX11_digestOfPlan_94 : decode cX11_digestOfPlan 94 = .ok (.iload 6, 2) := by decide +kernel
theorem dX11_digestOfPlan_96 : decode cX11_digestOfPlan 96 = .ok (.iconst 0, 1) := by decide +kernel
theorem dX11_digestOfPlan_97 : decode cX11_digestOfPlan 97 = .ok (.invokevirtual 322, 3) := by decide +kernel
theorem dX11_digestOfPlan_100 : decode cX11_digestOfPlan 100 = .ok (.ladd, 1) := by decide +kernel
theorem dX11_digestOfPlan_101 : decode cX11_digestOfPlan 101 = .ok (.lstore 4, 2) := by decide +kernel
theorem dX11_digestOfPlan_103 : decode cX11_digestOfPlan 103 = .ok (.ldc2_w 299, 3) := by decide +kernel
theorem dX11_digestOfPlan_106 : decode cX11_digestOfPlan 106 = .ok (.lload 4, 2) := by decide +kernel
theorem dX11_digestOfPlan_108 : decode cX11_digestOfPlan 108 = .ok (.lmul, 1) := by decide +kernel
theorem dX11_digestOfPlan_109 : decode cX11_digestOfPlan 109 = .ok (.aload_n 0, 1) := by decide +kernel
theorem dX11_digestOfPlan_110 : decode cX11_digestOfPlan 110 = .ok (.iload_n 3, 1) := by decide +kernel
theorem dX11_digestOfPlan_111 : decode cX11_digestOfPlan 111 = .ok (.iload 6, 2) := by decide +kernel
theorem dX11_digestOfPlan_113 : decode cX11_digestOfPlan 113 = .ok (.iconst 1, 1) := by decide +kernel
theorem dX11_digestOfPlan_114 : decode cX11_digestOfPlan 114 = .ok (.invokevirtual 322, 3) := by decide +kernel
theorem dX11_digestOfPlan_117 : decode cX11_digestOfPlan 117 = .ok (.ladd, 1) := by decide +kernel
theorem dX11_digestOfPlan_118 : decode cX11_digestOfPlan 118 = .ok (.lstore 4, 2) := by decide +kernel
theorem dX11_digestOfPlan_120 : decode cX11_digestOfPlan 120 = .ok (.iinc 6 1, 3) := by decide +kernel
theorem dX11_digestOfPlan_123 : decode cX11_digestOfPlan 123 = .ok (.goto (-49), 3) := by decide +kernel
theorem dX11_digestOfPlan_126 : decode cX11_digestOfPlan 126 = .ok (.lload 4, 2) := by decide +kernel
theorem dX11_digestOfPlan_128 : decode cX11_digestOfPlan 128 = .ok (.lreturn, 1) := by decide +kernel
theorem dX11_within_0 : decode cX11_within 0 = .ok (.iload_n 0, 1) := by decide +kernel
theorem dX11_within_1 : decode cX11_within 1 = .ok (.iload_n 1, 1) := by decide +kernel
theorem dX11_within_2 : decode cX11_within 2 = .ok (.if_icmp .lt 12, 3) := by decide +kernel
theorem dX11_within_5 : decode cX11_within 5 = .ok (.iload_n 0, 1) := by decide +kernel
theorem dX11_within_6 : decode cX11_within 6 = .ok (.iload_n 2, 1) := by decide +kernel
theorem dX11_within_7 : decode cX11_within 7 = .ok (.if_icmp .gt 7, 3) := by decide +kernel
theorem dX11_within_10 : decode cX11_within 10 = .ok (.iconst 1, 1) := by decide +kernel
theorem dX11_within_11 : decode cX11_within 11 = .ok (.goto 4, 3) := by decide +kernel
theorem dX11_within_14 : decode cX11_within 14 = .ok (.iconst 0, 1) := by decide +kernel
theorem dX11_within_15 : decode cX11_within 15 = .ok (.ireturn, 1) := by decide +kernel
theorem dX11_isPlan_0 : decode cX11_isPlan 0 = .ok (.iload_n 0, 1) := by decide +kernel
theorem dX11_isPlan_1 : decode cX11_isPlan 1 = .ok (.iconst 0, 1) := by decide +kernel
theorem dX11_isPlan_2 : decode cX11_isPlan 2 = .ok (.iconst 3, 1) := by decide +kernel
theorem dX11_isPlan_3 : decode cX11_isPlan 3 = .ok (.invokestatic 105, 3) := by decide +kernel
theorem dX11_isPlan_6 : decode cX11_isPlan 6 = .ok (.ireturn, 1) := by decide +kernel
theorem dX11_isSheet_0 : decode cX11_isSheet 0 = .ok (.iload_n 0, 1) := by decide +kernel
theorem dX11_isSheet_1 : decode cX11_isSheet 1 = .ok (.iconst 0, 1) := by decide +kernel
theorem dX11_isSheet_2 : decode cX11_isSheet 2 = .ok (.iconst 3, 1) := by decide +kernel
theorem dX11_isSheet_3 : decode cX11_isSheet 3 = .ok (.invokestatic 105, 3) := by decide +kernel
theorem dX11_isSheet_6 : decode cX11_isSheet 6 = .ok (.ireturn, 1) := by decide +kernel
theorem dX11_isForm_0 : decode cX11_isForm 0 = .ok (.iload_n 0, 1) := by decide +kernel
theorem dX11_isForm_1 : decode cX11_isForm 1 = .ok (.iconst 0, 1) := by decide +kernel
theorem dX11_isForm_2 : decode cX11_isForm 2 = .ok (.iconst 2, 1) := by decide +kernel
theorem dX11_isForm_3 : decode cX11_isForm 3 = .ok (.invokestatic 105, 3) := by decide +kernel
theorem dX11_isForm_6 : decode cX11_isForm 6 = .ok (.ireturn, 1) := by decide +kernel
theorem dX11_isAboveOrBelow_0 : decode cX11_isAboveOrBelow 0 = .ok (.iload_n 0, 1) := by decide +kernel
theorem dX11_isAboveOrBelow_1 : decode cX11_isAboveOrBelow 1 = .ok (.iconst 0, 1) := by decide +kernel
theorem dX11_isAboveOrBelow_2 : decode cX11_isAboveOrBelow 2 = .ok (.iconst 1, 1) := by decide +kernel
theorem dX11_isAboveOrBelow_3 : decode cX11_isAboveOrBelow 3 = .ok (.invokestatic 105, 3) := by decide +kernel
theorem dX11_isAboveOrBelow_6 : decode cX11_isAboveOrBelow 6 = .ok (.ireturn, 1) := by decide +kernel
theorem dX11_isIn_0 : decode cX11_isIn 0 = .ok (.iload_n 0, 1) := by decide +kernel
theorem dX11_isIn_1 : decode cX11_isIn 1 = .ok (.iload_n 1, 1) := by decide +kernel
theorem dX11_isIn_2 : decode cX11_isIn 2 = .ok (.ishr, 1) := by decide +kernel
theorem dX11_isIn_3 : decode cX11_isIn 3 = .ok (.iconst 1, 1) := by decide +kernel
theorem dX11_isIn_4 : decode cX11_isIn 4 = .ok (.iand, 1) := by decide +kernel
theorem dX11_isIn_5 : decode cX11_isIn 5 = .ok (.iconst 1, 1) := by decide +kernel
theorem dX11_isIn_6 : decode cX11_isIn 6 = .ok (.if_icmp .ne 7, 3) := by decide +kernel
theorem dX11_isIn_9 : decode cX11_isIn 9 = .ok (.iconst 1, 1) := by decide +kernel
theorem dX11_isIn_10 : decode cX11_isIn 10 = .ok (.goto 4, 3) := by decide +kernel
theorem dX11_isIn_13 : decode cX11_isIn 13 = .ok (.iconst 0, 1) := by decide +kernel
theorem dX11_isIn_14 : decode cX11_isIn 14 = .ok (.ireturn, 1) := by decide +kernel
theorem dX11_asLong_0 : decode cX11_asLong 0 = .ok (.ldc2_w 326, 3) := by decide +kernel
theorem dX11_asLong_3 : decode cX11_asLong 3 = .ok (.iload_n 0, 1) := by decide +kernel
theorem dX11_asLong_4 : decode cX11_asLong 4 = .ok (.i2l, 1) := by decide +kernel
theorem dX11_asLong_5 : decode cX11_asLong 5 = .ok (.lsub, 1) := by decide +kernel
theorem dX11_asLong_6 : decode cX11_asLong 6 = .ok (.lreturn, 1) := by decide +kernel
theorem dX11_swap_0 : decode cX11_swap 0 = .ok (.aload_n 0, 1) := by decide +kernel
theorem dX11_swap_1 : decode cX11_swap 1 = .ok (.iload_n 1, 1) := by decide +kernel
theorem dX11_swap_2 : decode cX11_swap 2 = .ok (.iaload, 1) := by decide +kernel
theorem dX11_swap_3 : decode cX11_swap 3 = .ok (.istore_n 3, 1) := by decide +kernel
theorem dX11_swap_4 : decode cX11_swap 4 = .ok (.aload_n 0, 1) := by decide +kernel
theorem dX11_swap_5 : decode cX11_swap 5 = .ok (.iload_n 1, 1) := by decide +kernel
theorem dX11_swap_6 : decode cX11_swap 6 = .ok (.iload_n 2, 1) := by decide +kernel
theorem dX11_swap_7 : decode cX11_swap 7 = .ok (.iastore, 1) := by decide +kernel
theorem dX11_swap_8 : decode cX11_swap 8 = .ok (.iload_n 3, 1) := by decide +kernel
theorem dX11_swap_9 : decode cX11_swap 9 = .ok (.ireturn, 1) := by decide +kernel
theorem dX11_findingOf_0 : decode cX11_findingOf 0 = .ok (.aload_n 0, 1) := by decide +kernel
theorem dX11_findingOf_1 : decode cX11_findingOf 1 = .ok (.iload_n 1, 1) := by decide +kernel
theorem dX11_findingOf_2 : decode cX11_findingOf 2 = .ok (.putfield 269, 3) := by decide +kernel
theorem dX11_findingOf_5 : decode cX11_findingOf 5 = .ok (.bipush (-10), 2) := by decide +kernel
theorem dX11_findingOf_7 : decode cX11_findingOf 7 = .ok (.iload_n 1, 1) := by decide +kernel
theorem dX11_findingOf_8 : decode cX11_findingOf 8 = .ok (.isub, 1) := by decide +kernel
theorem dX11_findingOf_9 : decode cX11_findingOf 9 = .ok (.ireturn, 1) := by decide +kernel
theorem dX11_refusalOfDraw_0 : decode cX11_refusalOfDraw 0 = .ok (.iload_n 1, 1) := by decide +kernel
theorem dX11_refusalOfDraw_1 : decode cX11_refusalOfDraw 1 = .ok (.invokestatic 133, 3) := by decide +kernel
theorem dX11_refusalOfDraw_4 : decode cX11_refusalOfDraw 4 = .ok (.ifCond .eq 14, 3) := by decide +kernel
theorem dX11_refusalOfDraw_7 : decode cX11_refusalOfDraw 7 = .ok (.aload_n 0, 1) := by decide +kernel
theorem dX11_refusalOfDraw_8 : decode cX11_refusalOfDraw 8 = .ok (.getfield 10, 3) := by decide +kernel
theorem dX11_refusalOfDraw_11 : decode cX11_refusalOfDraw 11 = .ok (.iload_n 2, 1) := by decide +kernel
theorem dX11_refusalOfDraw_12 : decode cX11_refusalOfDraw 12 = .ok (.invokevirtual 186, 3) := by decide +kernel
theorem dX11_refusalOfDraw_15 : decode cX11_refusalOfDraw 15 = .ok (.ifCond .ne 6, 3) := by decide +kernel
theorem dX11_refusalOfDraw_18 : decode cX11_refusalOfDraw 18 = .ok (.bipush (-2), 2) := by decide +kernel
theorem dX11_refusalOfDraw_20 : decode cX11_refusalOfDraw 20 = .ok (.ireturn, 1) := by decide +kernel
theorem dX11_refusalOfDraw_21 : decode cX11_refusalOfDraw 21 = .ok (.aload_n 0, 1) := by decide +kernel
theorem dX11_refusalOfDraw_22 : decode cX11_refusalOfDraw 22 = .ok (.getfield 27, 3) := by decide +kernel
theorem dX11_refusalOfDraw_25 : decode cX11_refusalOfDraw 25 = .ok (.iload_n 1, 1) := by decide +kernel
theorem dX11_refusalOfDraw_26 : decode cX11_refusalOfDraw 26 = .ok (.aaload, 1) := by decide +kernel
theorem dX11_refusalOfDraw_27 : decode cX11_refusalOfDraw 27 = .ok (.invokevirtual 146, 3) := by decide +kernel
theorem dX11_refusalOfDraw_30 : decode cX11_refusalOfDraw 30 = .ok (.astore_n 3, 1) := by decide +kernel
theorem dX11_refusalOfDraw_31 : decode cX11_refusalOfDraw 31 = .ok (.aload_n 3, 1) := by decide +kernel
theorem dX11_refusalOfDraw_32 : decode cX11_refusalOfDraw 32 = .ok (.ifnonnull 6, 3) := by decide +kernel
theorem dX11_refusalOfDraw_35 : decode cX11_refusalOfDraw 35 = .ok (.bipush (-3), 2) := by decide +kernel
theorem dX11_refusalOfDraw_37 : decode cX11_refusalOfDraw 37 = .ok (.ireturn, 1) := by decide +kernel
theorem dX11_refusalOfDraw_38 : decode cX11_refusalOfDraw 38 = .ok (.aload_n 3, 1) := by decide +kernel
theorem dX11_refusalOfDraw_39 : decode cX11_refusalOfDraw 39 = .ok (.iload_n 2, 1) := by decide +kernel
theorem dX11_refusalOfDraw_40 : decode cX11_refusalOfDraw 40 = .ok (.invokevirtual 189, 3) := by decide +kernel
theorem dX11_refusalOfDraw_43 : decode cX11_refusalOfDraw 43 = .ok (.ifCond .eq 7, 3) := by decide +kernel
theorem dX11_refusalOfDraw_46 : decode cX11_refusalOfDraw 46 = .ok (.iconst 0, 1) := by decide +kernel
theorem dX11_refusalOfDraw_47 : decode cX11_refusalOfDraw 47 = .ok (.goto 5, 3) := by decide +kernel
theorem dX11_refusalOfDraw_50 : decode cX11_refusalOfDraw 50 = .ok (.bipush (-2), 2) := by decide +kernel
theorem dX11_refusalOfDraw_52 : decode cX11_refusalOfDraw 52 = .ok (.ireturn, 1) := by decide +kernel
theorem dX11_addUp_0 : decode cX11_addUp 0 = .ok (.aload_n 0, 1) := by decide +kernel
theorem dX11_addUp_1 : decode cX11_addUp 1 = .ok (.getfield 54, 3) := by decide +kernel
theorem dX11_addUp_4 : decode cX11_addUp 4 = .ok (.lconst 0, 1) := by decide +kernel
theorem dX11_addUp_5 : decode cX11_addUp 5 = .ok (.lconst 1, 1) := by decide +kernel
theorem dX11_addUp_6 : decode cX11_addUp 6 = .ok (.invokevirtual 328, 3) := by decide +kernel
theorem dX11_addUp_9 : decode cX11_addUp 9 = .ok (.aload_n 1, 1) := by decide +kernel
theorem dX11_addUp_10 : decode cX11_addUp 10 = .ok (.ifnonnull 4, 3) := by decide +kernel
theorem dX11_addUp_13 : decode cX11_addUp 13 = .ok (.return_, 1) := by decide +kernel
theorem dX11_addUp_14 : decode cX11_addUp 14 = .ok (.iload_n 2, 1) := by decide +kernel
theorem dX11_addUp_15 : decode cX11_addUp 15 = .ok (.aload_n 0, 1) := by decide +kernel
theorem dX11_addUp_16 : decode cX11_addUp 16 = .ok (.getfield 10, 3) := by decide +kernel
theorem dX11_addUp_19 : decode cX11_addUp 19 = .ok (.getfield 200, 3) := by decide +kernel
theorem dX11_addUp_22 : decode cX11_addUp 22 = .ok (.iand, 1) := by decide +kernel
theorem dX11_addUp_23 : decode cX11_addUp 23 = .ok (.istore_n 3, 1) := by decide +kernel
theorem dX11_addUp_24 : decode cX11_addUp 24 = .ok (.iconst 0, 1) := by decide +kernel
theorem dX11_addUp_25 : decode cX11_addUp 25 = .ok (.istore 4, 2) := by decide +kernel
theorem dX11_addUp_27 : decode cX11_addUp 27 = .ok (.iload 4, 2) := by decide +kernel
theorem dX11_addUp_29 : decode cX11_addUp 29 = .ok (.aload_n 0, 1) := by decide +kernel
theorem dX11_addUp_30 : decode cX11_addUp 30 = .ok (.getfield 10, 3) := by decide +kernel
theorem dX11_addUp_33 : decode cX11_addUp 33 = .ok (.getfield 130, 3) := by decide +kernel
theorem dX11_addUp_36 : decode cX11_addUp 36 = .ok (.if_icmp .ge 61, 3) := by decide +kernel
theorem dX11_addUp_39 : decode cX11_addUp 39 = .ok (.iload_n 3, 1) := by decide +kernel
theorem dX11_addUp_40 : decode cX11_addUp 40 = .ok (.iload 4, 2) := by decide +kernel
theorem dX11_addUp_42 : decode cX11_addUp 42 = .ok (.invokestatic 285, 3) := by decide +kernel
theorem dX11_addUp_45 : decode cX11_addUp 45 = .ok (.ifCond .eq 46, 3) := by decide +kernel
theorem dX11_addUp_48 : decode cX11_addUp 48 = .ok (.aload_n 1, 1) := by decide +kernel
theorem dX11_addUp_49 : decode cX11_addUp 49 = .ok (.iload 4, 2) := by decide +kernel
theorem dX11_addUp_51 : decode cX11_addUp 51 = .ok (.aload_n 0, 1) := by decide +kernel
theorem dX11_addUp_52 : decode cX11_addUp 52 = .ok (.getfield 58, 3) := by decide +kernel
theorem dX11_addUp_55 : decode cX11_addUp 55 = .ok (.invokevirtual 163, 3) := by decide +kernel
theorem dX11_addUp_58 : decode cX11_addUp 58 = .ok (.aload_n 0, 1) := by decide +kernel
theorem dX11_addUp_59 : decode cX11_addUp 59 = .ok (.getfield 54, 3) := by decide +kernel
theorem dX11_addUp_62 : decode cX11_addUp 62 = .ok (.aload_n 0, 1) := by decide +kernel
theorem dX11_addUp_63 : decode cX11_addUp 63 = .ok (.getfield 10, 3) := by decide +kernel
theorem dX11_addUp_66 : decode cX11_addUp 66 = .ok (.getfield 102, 3) := by decide +kernel
theorem dX11_addUp_69 : decode cX11_addUp 69 = .ok (.iload 4, 2) := by decide +kernel
theorem dX11_addUp_71 : decode cX11_addUp 71 = .ok (.iaload, 1) := by decide +kernel
theorem dX11_addUp_72 : decode cX11_addUp 72 = .ok (.i2l, 1) := by decide +kernel
theorem dX11_addUp_73 : decode cX11_addUp 73 = .ok (.aload_n 0, 1) := by decide +kernel
theorem dX11_addUp_74 : decode cX11_addUp 74 = .ok (.getfield 58, 3) := by decide +kernel
theorem dX11_addUp_77 : decode cX11_addUp 77 = .ok (.getfield 332, 3) := by decide +kernel
theorem dX11_addUp_80 : decode cX11_addUp 80 = .ok (.lmul, 1) := by decide +kernel
theorem dX11_addUp_81 : decode cX11_addUp 81 = .ok (.aload_n 0, 1) := by decide +kernel
theorem dX11_addUp_82 : decode cX11_addUp 82 = .ok (.getfield 58, 3) := by decide +kernel
theorem dX11_addUp_85 : decode cX11_addUp 85 = .ok (.getfield 336, 3) := by decide +kernel
theorem dX11_addUp_88 : decode cX11_addUp 88 = .ok (.invokevirtual 339, 3) := by decide +kernel
theorem dX11_addUp_91 : decode cX11_addUp 91 = .ok (.iinc 4 1, 3) := by decide +kernel
theorem dX11_addUp_94 : decode cX11_addUp 94 = .ok (.goto (-67), 3) := by decide +kernel
theorem dX11_addUp_97 : decode cX11_addUp 97 = .ok (.return_, 1) := by decide +kernel
theorem dX11_spreadOf_0 : decode cX11_spreadOf 0 = .ok (.aload_n 0, 1) := by decide +kernel
theorem dX11_spreadOf_1 : decode cX11_spreadOf 1 = .ok (.getfield 27, 3) := by decide +kernel
theorem dX11_spreadOf_4 : decode cX11_spreadOf 4 = .ok (.iload_n 1, 1) := by decide +kernel
theorem dX11_spreadOf_5 : decode cX11_spreadOf 5 = .ok (.aaload, 1) := by decide +kernel
theorem dX11_spreadOf_6 : decode cX11_spreadOf 6 = .ok (.invokevirtual 146, 3) := by decide +kernel
theorem dX11_spreadOf_9 : decode cX11_spreadOf 9 = .ok (.astore 4, 2) := by decide +kernel
theorem dX11_spreadOf_11 : decode cX11_spreadOf 11 = .ok (.aload 4, 2) := by decide +kernel
theorem dX11_spreadOf_13 : decode cX11_spreadOf 13 = .ok (.instanceof 342, 3) := by decide +kernel
theorem dX11_spreadOf_16 : decode cX11_spreadOf 16 = .ok (.ifCond .eq 15, 3) := by decide +kernel
theorem dX11_spreadOf_19 : decode cX11_spreadOf 19 = .ok (.aload 4, 2) := by decide +kernel
theorem dX11_spreadOf_21 : decode cX11_spreadOf 21 = .ok (.checkcast 342, 3) := by decide +kernel
theorem dX11_spreadOf_24 : decode cX11_spreadOf 24 = .ok (.astore_n 3, 1) := by decide +kernel
theorem dX11_spreadOf_25 : decode cX11_spreadOf 25 = .ok (.aload_n 3, 1) := by decide +kernel
theorem dX11_spreadOf_26 : decode cX11_spreadOf 26 = .ok (.aload_n 2, 1) := by decide +kernel
theorem dX11_spreadOf_27 : decode cX11_spreadOf 27 = .ok (.invokevirtual 344, 3) := by decide +kernel
theorem dX11_spreadOf_30 : decode cX11_spreadOf 30 = .ok (.ireturn, 1) := by decide +kernel
theorem dX11_spreadOf_31 : decode cX11_spreadOf 31 = .ok (.iconst 0, 1) := by decide +kernel
theorem dX11_spreadOf_32 : decode cX11_spreadOf 32 = .ok (.ireturn, 1) := by decide +kernel
theorem dX11_edgeOf_0 : decode cX11_edgeOf 0 = .ok (.aload_n 1, 1) := by decide +kernel
theorem dX11_edgeOf_1 : decode cX11_edgeOf 1 = .ok (.invokevirtual 348, 3) := by decide +kernel
theorem dX11_edgeOf_4 : decode cX11_edgeOf 4 = .ok (.istore_n 3, 1) := by decide +kernel
theorem dX11_edgeOf_5 : decode cX11_edgeOf 5 = .ok (.lconst 0, 1) := by decide +kernel
theorem dX11_edgeOf_6 : decode cX11_edgeOf 6 = .ok (.lstore 4, 2) := by decide +kernel
theorem dX11_edgeOf_8 : decode cX11_edgeOf 8 = .ok (.iconst 0, 1) := by decide +kernel
theorem dX11_edgeOf_9 : decode cX11_edgeOf 9 = .ok (.istore 6, 2) := by decide +kernel
theorem dX11_edgeOf_11 : decode cX11_edgeOf 11 = .ok (.iload 6, 2) := by decide +kernel
theorem dX11_edgeOf_13 : decode cX11_edgeOf 13 = .ok (.iload_n 3, 1) := by decide +kernel
theorem dX11_edgeOf_14 : decode cX11_edgeOf 14 = .ok (.if_icmp .ge 78, 3) := by decide +kernel
theorem dX11_edgeOf_17 : decode cX11_edgeOf 17 = .ok (.aload_n 0, 1) := by decide +kernel
theorem dX11_edgeOf_18 : decode cX11_edgeOf 18 = .ok (.aload_n 1, 1) := by decide +kernel
theorem dX11_edgeOf_19 : decode cX11_edgeOf 19 = .ok (.aload_n 1, 1) := by decide +kernel
theorem dX11_edgeOf_20 : decode cX11_edgeOf 20 = .ok (.iload 6, 2) := by decide +kernel
theorem dX11_edgeOf_22 : decode cX11_edgeOf 22 = .ok (.invokevirtual 351, 3) := by decide +kernel
theorem dX11_edgeOf_25 : decode cX11_edgeOf 25 = .ok (.invokevirtual 196, 3) := by decide +kernel
theorem dX11_edgeOf_28 : decode cX11_edgeOf 28 = .ok (.aload_n 0, 1) := by decide +kernel
theorem dX11_edgeOf_29 : decode cX11_edgeOf 29 = .ok (.getfield 54, 3) := by decide +kernel
theorem dX11_edgeOf_32 : decode cX11_edgeOf 32 = .ok (.invokevirtual 354, 3) := by decide +kernel
theorem dX11_edgeOf_35 : decode cX11_edgeOf 35 = .ok (.lstore 7, 2) := by decide +kernel
theorem dX11_edgeOf_37 : decode cX11_edgeOf 37 = .ok (.iload_n 2, 1) := by decide +kernel
theorem dX11_edgeOf_38 : decode cX11_edgeOf 38 = .ok (.ifCond .ne 19, 3) := by decide +kernel
theorem dX11_edgeOf_41 : decode cX11_edgeOf 41 = .ok (.lload 7, 2) := by decide +kernel
theorem dX11_edgeOf_43 : decode cX11_edgeOf 43 = .ok (.lload 4, 2) := by decide +kernel
theorem dX11_edgeOf_45 : decode cX11_edgeOf 45 = .ok (.lcmp, 1) := by decide +kernel
theorem dX11_edgeOf_46 : decode cX11_edgeOf 46 = .ok (.ifCond .ge 7, 3) := by decide +kernel
theorem dX11_edgeOf_49 : decode cX11_edgeOf 49 = .ok (.iconst 1, 1) := by decide +kernel
theorem dX11_edgeOf_50 : decode cX11_edgeOf 50 = .ok (.goto 20, 3) := by decide +kernel
theorem dX11_edgeOf_53 : decode cX11_edgeOf 53 = .ok (.iconst 0, 1) := by decide +kernel
theorem dX11_edgeOf_54 : decode cX11_edgeOf 54 = .ok (.goto 16, 3) := by decide +kernel
theorem dX11_edgeOf_57 : decode cX11_edgeOf 57 = .ok (.lload 7, 2) := by decide +kernel
theorem dX11_edgeOf_59 : decode cX11_edgeOf 59 = .ok (.lload 4, 2) := by decide +kernel
theorem dX11_edgeOf_61 : decode cX11_edgeOf 61 = .ok (.lcmp, 1) := by decide +kernel
theorem dX11_edgeOf_62 : decode cX11_edgeOf 62 = .ok (.ifCond .le 7, 3) := by decide +kernel
theorem dX11_edgeOf_65 : decode cX11_edgeOf 65 = .ok (.iconst 1, 1) := by decide +kernel
theorem dX11_edgeOf_66 : decode cX11_edgeOf 66 = .ok (.goto 4, 3) := by decide +kernel
theorem dX11_edgeOf_69 : decode cX11_edgeOf 69 = .ok (.iconst 0, 1) := by decide +kernel
theorem dX11_edgeOf_70 : decode cX11_edgeOf 70 = .ok (.istore 9, 2) := by decide +kernel
theorem dX11_edgeOf_72 : decode cX11_edgeOf 72 = .ok (.iload 6, 2) := by decide +kernel
theorem dX11_edgeOf_74 : decode cX11_edgeOf 74 = .ok (.ifCond .eq 8, 3) := by decide +kernel
theorem dX11_edgeOf_77 : decode cX11_edgeOf 77 = .ok (.iload 9, 2) := by decide +kernel
theorem dX11_edgeOf_79 : decode cX11_edgeOf 79 = .ok (.ifCond .eq 7, 3) := by decide +kernel
theorem dX11_edgeOf_82 : decode cX11_edgeOf 82 = .ok (.lload 7, 2) := by decide +kernel
theorem dX11_edgeOf_84 : decode cX11_edgeOf 84 = .ok (.lstore 4, 2) := by decide +kernel
theorem dX11_edgeOf_86 : decode cX11_edgeOf 86 = .ok (.iinc 6 1, 3) := by decide +kernel
theorem dX11_edgeOf_89 : decode cX11_edgeOf 89 = .ok (.goto (-78), 3) := by decide +kernel
theorem dX11_edgeOf_92 : decode cX11_edgeOf 92 = .ok (.lload 4, 2) := by decide +kernel
theorem dX11_edgeOf_94 : decode cX11_edgeOf 94 = .ok (.lreturn, 1) := by decide +kernel
theorem dX12_init_0 : decode cX12_init 0 = .ok (.aload_n 0, 1) := by decide +kernel
theorem dX12_init_1 : decode cX12_init 1 = .ok (.invokespecial 1, 3) := by decide +kernel
theorem dX12_init_4 : decode cX12_init 4 = .ok (.aload_n 0, 1) := by decide +kernel
theorem dX12_init_5 : decode cX12_init 5 = .ok (.iconst 4, 1) := by decide +kernel
theorem dX12_init_6 : decode cX12_init 6 = .ok (.newarray .int, 2) := by decide +kernel
theorem dX12_init_8 : decode cX12_init 8 = .ok (.putfield 7, 3) := by decide +kernel
theorem dX12_init_11 : decode cX12_init 11 = .ok (.aload_n 0, 1) := by decide +kernel
theorem dX12_init_12 : decode cX12_init 12 = .ok (.iconst 4, 1) := by decide +kernel
theorem dX12_init_13 : decode cX12_init 13 = .ok (.newarray .int, 2) := by decide +kernel
theorem dX12_init_15 : decode cX12_init 15 = .ok (.putfield 13, 3) := by decide +kernel
theorem dX12_init_18 : decode cX12_init 18 = .ok (.aload_n 0, 1) := by decide +kernel
theorem dX12_init_19 : decode cX12_init 19 = .ok (.sipush 360, 3) := by decide +kernel
theorem dX12_init_22 : decode cX12_init 22 = .ok (.newarray .int, 2) := by decide +kernel
theorem dX12_init_24 : decode cX12_init 24 = .ok (.putfield 16, 3) := by decide +kernel
theorem dX12_init_27 : decode cX12_init 27 = .ok (.aload_n 0, 1) := by decide +kernel
theorem dX12_init_28 : decode cX12_init 28 = .ok (.bipush 90, 2) := by decide +kernel
theorem dX12_init_30 : decode cX12_init 30 = .ok (.newarray .int, 2) := by decide +kernel
theorem dX12_init_32 : decode cX12_init 32 = .ok (.putfield 19, 3) := by decide +kernel
theorem dX12_init_35 : decode cX12_init 35 = .ok (.aload_n 0, 1) := by decide +kernel
theorem dX12_init_36 : decode cX12_init 36 = .ok (.bipush 30, 2) := by decide +kernel
theorem dX12_init_38 : decode cX12_init 38 = .ok (.newarray .int, 2) := by decide +kernel
theorem dX12_init_40 : decode cX12_init 40 = .ok (.putfield 22, 3) := by decide +kernel
theorem dX12_init_43 : decode cX12_init 43 = .ok (.aload_n 0, 1) := by decide +kernel
theorem dX12_init_44 : decode cX12_init 44 = .ok (.bipush 30, 2) := by decide +kernel
theorem dX12_init_46 : decode cX12_init 46 = .ok (.newarray .int, 2) := by decide +kernel
theorem dX12_init_48 : decode cX12_init 48 = .ok (.putfield 25, 3) := by decide +kernel
theorem dX12_init_51 : decode cX12_init 51 = .ok (.aload_n 0, 1) := by decide +kernel
theorem dX12_init_52 : decode cX12_init 52 = .ok (.bipush 30, 2) := by decide +kernel
theorem dX12_init_54 : decode cX12_init 54 = .ok (.newarray .int, 2) := by decide +kernel
theorem dX12_init_56 : decode cX12_init 56 = .ok (.putfield 28, 3) := by decide +kernel
theorem dX12_init_59 : decode cX12_init 59 = .ok (.aload_n 0, 1) := by decide +kernel
theorem dX12_init_60 : decode cX12_init 60 = .ok (.bipush 30, 2) := by decide +kernel
theorem dX12_init_62 : decode cX12_init 62 = .ok (.newarray .int, 2) := by decide +kernel
theorem dX12_init_64 : decode cX12_init 64 = .ok (.putfield 31, 3) := by decide +kernel
theorem dX12_init_67 : decode cX12_init 67 = .ok (.aload_n 0, 1) := by decide +kernel
theorem dX12_init_68 : decode cX12_init 68 = .ok (.bipush 120, 2) := by decide +kernel
theorem dX12_init_70 : decode cX12_init 70 = .ok (.newarray .int, 2) := by decide +kernel
theorem dX12_init_72 : decode cX12_init 72 = .ok (.putfield 34, 3) := by decide +kernel
theorem dX12_init_75 : decode cX12_init 75 = .ok (.aload_n 0, 1) := by decide +kernel
theorem dX12_init_76 : decode cX12_init 76 = .ok (.bipush 120, 2) := by decide +kernel
theorem dX12_init_78 : decode cX12_init 78 = .ok (.newarray .int, 2) := by decide +kernel
theorem dX12_init_80 : decode cX12_init 80 = .ok (.putfield 37, 3) := by decide +kernel
theorem dX12_init_83 : decode cX12_init 83 = .ok (.aload_n 0, 1) := by decide +kernel
theorem dX12_init_84 : decode cX12_init 84 = .ok (.bipush 120, 2) := by decide +kernel
theorem dX12_init_86 : decode cX12_init 86 = .ok (.newarray .int, 2) := by decide +kernel
theorem dX12_init_88 : decode cX12_init 88 = .ok (.putfield 40, 3) := by decide +kernel
theorem dX12_init_91 : decode cX12_init 91 = .ok (.aload_n 0, 1) := by decide +kernel
theorem dX12_init_92 : decode cX12_init 92 = .ok (.sipush 399, 3) := by decide +kernel
theorem dX12_init_95 : decode cX12_init 95 = .ok (.putfield 43, 3) := by decide +kernel
theorem dX12_init_98 : decode cX12_init 98 = .ok (.aload_n 0, 1) := by decide +kernel
theorem dX12_init_99 : decode cX12_init 99 = .ok (.bipush 80, 2) := by decide +kernel
theorem dX12_init_101 : decode cX12_init 101 = .ok (.newarray .int, 2) := by decide +kernel
theorem dX12_init_103 : decode cX12_init 103 = .ok (.putfield 47, 3) := by decide +kernel
theorem dX12_init_106 : decode cX12_init 106 = .ok (.aload_n 0, 1) := by decide +kernel
theorem dX12_init_107 : decode cX12_init 107 = .ok (.iconst 4, 1) := by decide +kernel
theorem dX12_init_108 : decode cX12_init 108 = .ok (.newarray .int, 2) := by decide +kernel
theorem dX12_init_110 : decode cX12_init 110 = .ok (.putfield 50, 3) := by decide +kernel
theorem dX12_init_113 : decode cX12_init 113 = .ok (.aload_n 0, 1) := by decide +kernel
theorem dX12_init_114 : decode cX12_init 114 = .ok (.iconst 4, 1) := by decide +kernel
theorem dX12_init_115 : decode cX12_init 115 = .ok (.newarray .int, 2) := by decide +kernel
theorem dX12_init_117 : decode cX12_init 117 = .ok (.putfield 53, 3) := by decide +kernel
theorem dX12_init_120 : decode cX12_init 120 = .ok (.aload_n 0, 1) := by decide +kernel
theorem dX12_init_121 : decode cX12_init 121 = .ok (.bipush 30, 2) := by decide +kernel
theorem dX12_init_123 : decode cX12_init 123 = .ok (.newarray .int, 2) := by decide +kernel
theorem dX12_init_125 : decode cX12_init 125 = .ok (.putfield 56, 3) := by decide +kernel
theorem dX12_init_128 : decode cX12_init 128 = .ok (.aload_n 0, 1) := by decide +kernel
theorem dX12_init_129 : decode cX12_init 129 = .ok (.bipush 9, 2) := by decide +kernel
theorem dX12_init_131 : decode cX12_init 131 = .ok (.newarray .long, 2) := by decide +kernel
theorem dX12_init_133 : decode cX12_init 133 = .ok (.putfield 59, 3) := by decide +kernel
theorem dX12_init_136 : decode cX12_init 136 = .ok (.aload_n 0, 1) := by decide +kernel
theorem dX12_init_137 : decode cX12_init 137 = .ok (.iconst 4, 1) := by decide +kernel
theorem dX12_init_138 : decode cX12_init 138 = .ok (.newarray .int, 2) := by decide +kernel
theorem dX12_init_140 : decode cX12_init 140 = .ok (.putfield 63, 3) := by decide +kernel
theorem dX12_init_143 : decode cX12_init 143 = .ok (.aload_n 0, 1) := by decide +kernel
theorem dX12_init_144 : decode cX12_init 144 = .ok (.iconst 3, 1) := by decide +kernel
theorem dX12_init_145 : decode cX12_init 145 = .ok (.newarray .int, 2) := by decide +kernel
theorem dX12_init_147 : decode cX12_init 147 = .ok (.putfield 66, 3) := by decide +kernel
theorem dX12_init_150 : decode cX12_init 150 = .ok (.aload_n 0, 1) := by decide +kernel
theorem dX12_init_151 : decode cX12_init 151 = .ok (.bipush 30, 2) := by decide +kernel
theorem dX12_init_153 : decode cX12_init 153 = .ok (.newarray .long, 2) := by decide +kernel
theorem dX12_init_155 : decode cX12_init 155 = .ok (.putfield 69, 3) := by decide +kernel
theorem dX12_init_158 : decode cX12_init 158 = .ok (.aload_n 0, 1) := by decide +kernel
theorem dX12_init_159 : decode cX12_init 159 = .ok (.bipush 30, 2) := by decide +kernel
theorem dX12_init_161 : decode cX12_init 161 = .ok (.newarray .boolean, 2) := by decide +kernel
theorem dX12_init_163 : decode cX12_init 163 = .ok (.putfield 72, 3) := by decide +kernel
theorem dX12_init_166 : decode cX12_init 166 = .ok (.aload_n 0, 1) := by decide +kernel
theorem dX12_init_167 : decode cX12_init 167 = .ok (.bipush 30, 2) := by decide +kernel
theorem dX12_init_169 : decode cX12_init 169 = .ok (.newarray .long, 2) := by decide +kernel
theorem dX12_init_171 : decode cX12_init 171 = .ok (.putfield 76, 3) := by decide +kernel
theorem dX12_init_174 : decode cX12_init 174 = .ok (.aload_n 0, 1) := by decide +kernel
theorem dX12_init_175 : decode cX12_init 175 = .ok (.bipush 8, 2) := by decide +kernel
theorem dX12_init_177 : decode cX12_init 177 = .ok (.newarray .int, 2) := by decide +kernel
theorem dX12_init_179 : decode cX12_init 179 = .ok (.putfield 79, 3) := by decide +kernel
theorem dX12_init_182 : decode cX12_init 182 = .ok (.aload_n 0, 1) := by decide +kernel
theorem dX12_init_183 : decode cX12_init 183 = .ok (.bipush 8, 2) := by decide +kernel
theorem dX12_init_185 : decode cX12_init 185 = .ok (.newarray .long, 2) := by decide +kernel
theorem dX12_init_187 : decode cX12_init 187 = .ok (.putfield 82, 3) := by decide +kernel
theorem dX12_init_190 : decode cX12_init 190 = .ok (.iconst 0, 1) := by decide +kernel
theorem dX12_init_191 : decode cX12_init 191 = .ok (.istore_n 1, 1) := by decide +kernel
theorem dX12_init_192 : decode cX12_init 192 = .ok (.iload_n 1, 1) := by decide +kernel
theorem dX12_init_193 : decode cX12_init 193 = .ok (.iconst 4, 1) := by decide +kernel
theorem dX12_init_194 : decode cX12_init 194 = .ok (.if_icmp .ge 16, 3) := by decide +kernel
theorem dX12_init_197 : decode cX12_init 197 = .ok (.aload_n 0, 1) := by decide +kernel
theorem dX12_init_198 : decode cX12_init 198 = .ok (.getfield 7, 3) := by decide +kernel
theorem dX12_init_201 : decode cX12_init 201 = .ok (.iload_n 1, 1) := by decide +kernel
theorem dX12_init_202 : decode cX12_init 202 = .ok (.iconst (-1), 1) := by decide +kernel
theorem dX12_init_203 : decode cX12_init 203 = .ok (.iastore, 1) := by decide +kernel
theorem dX12_init_204 : decode cX12_init 204 = .ok (.iinc 1 1, 3) := by decide +kernel
theorem dX12_init_207 : decode cX12_init 207 = .ok (.goto (-15), 3) := by decide +kernel
theorem dX12_init_210 : decode cX12_init 210 = .ok (.iconst 0, 1) := by decide +kernel
theorem dX12_init_211 : decode cX12_init 211 = .ok (.istore_n 1, 1) := by decide +kernel
theorem dX12_init_212 : decode cX12_init 212 = .ok (.iload_n 1, 1) := by decide +kernel
theorem dX12_init_213 : decode cX12_init 213 = .ok (.bipush 8, 2) := by decide +kernel
theorem dX12_init_215 : decode cX12_init 215 = .ok (.if_icmp .ge 16, 3) := by decide +kernel
theorem dX12_init_218 : decode cX12_init 218 = .ok (.aload_n 0, 1) := by decide +kernel
theorem dX12_init_219 : decode cX12_init 219 = .ok (.getfield 79, 3) := by decide +kernel
theorem dX12_init_222 : decode cX12_init 222 = .ok (.iload_n 1, 1) := by decide +kernel
theorem dX12_init_223 : decode cX12_init 223 = .ok (.iconst 5, 1) := by decide +kernel
theorem dX12_init_224 : decode cX12_init 224 = .ok (.iastore, 1) := by decide +kernel
theorem dX12_init_225 : decode cX12_init 225 = .ok (.iinc 1 1, 3) := by decide +kernel
theorem dX12_init_228 : decode cX12_init 228 = .ok (.goto (-16), 3) := by decide +kernel
theorem dX12_init_231 : decode cX12_init 231 = .ok (.return_, 1) := by decide +kernel
theorem dX12_in_0 : decode cX12_in 0 = .ok (.lload_n 0, 1) := by decide +kernel
theorem dX12_in_1 : decode cX12_in 1 = .ok (.lload_n 2, 1) := by decide +kernel
theorem dX12_in_2 : decode cX12_in 2 = .ok (.lcmp, 1) := by decide +kernel
theorem dX12_in_3 : decode cX12_in 3 = .ok (.ifCond .lt 14, 3) := by decide +kernel
theorem dX12_in_6 : decode cX12_in 6 = .ok (.lload_n 0, 1) := by decide +kernel
theorem dX12_in_7 : decode cX12_in 7 = .ok (.lload 4, 2) := by decide +kernel
theorem dX12_in_9 : decode cX12_in 9 = .ok (.lcmp, 1) := by decide +kernel
theorem dX12_in_10 : decode cX12_in 10 = .ok (.ifCond .gt 7, 3) := by decide +kernel
theorem dX12_in_13 : decode cX12_in 13 = .ok (.iconst 1, 1) := by decide +kernel
theorem dX12_in_14 : decode cX12_in 14 = .ok (.goto 4, 3) := by decide +kernel
theorem dX12_in_17 : decode cX12_in 17 = .ok (.iconst 0, 1) := by decide +kernel
theorem dX12_in_18 : decode cX12_in 18 = .ok (.ireturn, 1) := by decide +kernel
theorem dX12_no_0 : decode cX12_no 0 = .ok (.ldc2_w 85, 3) := by decide +kernel
theorem dX12_no_3 : decode cX12_no 3 = .ok (.iload_n 0, 1) := by decide +kernel
theorem dX12_no_4 : decode cX12_no 4 = .ok (.i2l, 1) := by decide +kernel
theorem dX12_no_5 : decode cX12_no 5 = .ok (.lsub, 1) := by decide +kernel
theorem dX12_no_6 : decode cX12_no 6 = .ok (.lreturn, 1) := by decide +kernel
theorem dX12_met_0 : decode cX12_met 0 = .ok (.aload_n 0, 1) := by decide +kernel
theorem dX12_met_1 : decode cX12_met 1 = .ok (.iload_n 1, 1) := by decide +kernel
theorem dX12_met_2 : decode cX12_met 2 = .ok (.putfield 87, 3) := by decide +kernel
theorem dX12_met_5 : decode cX12_met 5 = .ok (.bipush (-10), 2) := by decide +kernel
theorem dX12_met_7 : decode cX12_met 7 = .ok (.iload_n 1, 1) := by decide +kernel
theorem dX12_met_8 : decode cX12_met 8 = .ok (.isub, 1) := by decide +kernel
theorem dX12_met_9 : decode cX12_met 9 = .ok (.ireturn, 1) := by decide +kernel
theorem dX12_isSheet_0 : decode cX12_isSheet 0 = .ok (.iload_n 0, 1) := by decide +kernel
theorem dX12_isSheet_1 : decode cX12_isSheet 1 = .ok (.i2l, 1) := by decide +kernel
theorem dX12_isSheet_2 : decode cX12_isSheet 2 = .ok (.lconst 0, 1) := by decide +kernel
theorem dX12_isSheet_3 : decode cX12_isSheet 3 = .ok (.ldc2_w 90, 3) := by decide +kernel
theorem dX12_isSheet_6 : decode cX12_isSheet 6 = .ok (.invokestatic 92, 3) := by decide +kernel
theorem dX12_isSheet_9 : decode cX12_isSheet 9 = .ok (.ireturn, 1) := by decide +kernel
theorem dX12_sheet_0 : decode cX12_sheet 0 = .ok (.iload_n 1, 1) := by decide +kernel
theorem dX12_sheet_1 : decode cX12_sheet 1 = .ok (.invokestatic 96, 3) := by decide +kernel
theorem dX12_sheet_4 : decode cX12_sheet 4 = .ok (.ifCond .eq 21, 3) := by decide +kernel
theorem dX12_sheet_7 : decode cX12_sheet 7 = .ok (.iload_n 2, 1) := by decide +kernel
theorem dX12_sheet_8 : decode cX12_sheet 8 = .ok (.i2l, 1) := by decide +kernel
theorem dX12_sheet_9 : decode cX12_sheet 9 = .ok (.lconst 0, 1) := by decide +kernel
theorem dX12_sheet_10 : decode cX12_sheet 10 = .ok (.ldc2_w 100, 3) := by decide +kernel
theorem dX12_sheet_13 : decode cX12_sheet 13 = .ok (.invokestatic 92, 3) := by decide +kernel
theorem dX12_sheet_16 : decode cX12_sheet 16 = .ok (.ifCond .eq 9, 3) := by decide +kernel
theorem dX12_sheet_19 : decode cX12_sheet 19 = .ok (.iload_n 3, 1) := by decide +kernel
theorem dX12_sheet_20 : decode cX12_sheet 20 = .ok (.bipush 90, 2) := by decide +kernel
theorem dX12_sheet_22 : decode cX12_sheet 22 = .ok (.if_icmp .le 6, 3) := by decide +kernel
theorem dX12_sheet_25 : decode cX12_sheet 25 = .ok (.bipush (-2), 2) := by decide +kernel
theorem dX12_sheet_27 : decode cX12_sheet 27 = .ok (.ireturn, 1) := by decide +kernel
theorem dX12_sheet_28 : decode cX12_sheet 28 = .ok (.iload_n 3, 1) := by decide +kernel
theorem dX12_sheet_29 : decode cX12_sheet 29 = .ok (.ifCond .ge 9, 3) := by decide +kernel
theorem dX12_sheet_32 : decode cX12_sheet 32 = .ok (.aload_n 0, 1) := by decide +kernel
theorem dX12_sheet_33 : decode cX12_sheet 33 = .ok (.iconst 5, 1) := by decide +kernel
theorem dX12_sheet_34 : decode cX12_sheet 34 = .ok (.invokevirtual 102, 3) := by decide +kernel
theorem dX12_sheet_37 : decode cX12_sheet 37 = .ok (.ireturn, 1) := by decide +kernel
theorem dX12_sheet_38 : decode cX12_sheet 38 = .ok (.aload_n 0, 1) := by decide +kernel
theorem dX12_sheet_39 : decode cX12_sheet 39 = .ok (.getfield 7, 3) := by decide +kernel
theorem dX12_sheet_42 : decode cX12_sheet 42 = .ok (.iload_n 1, 1) := by decide +kernel
theorem dX12_sheet_43 : decode cX12_sheet 43 = .ok (.iload_n 2, 1) := by decide +kernel
theorem dX12_sheet_44 : decode cX12_sheet 44 = .ok (.iastore, 1) := by decide +kernel
theorem dX12_sheet_45 : decode cX12_sheet 45 = .ok (.aload_n 0, 1) := by decide +kernel
theorem dX12_sheet_46 : decode cX12_sheet 46 = .ok (.getfield 13, 3) := by decide +kernel
theorem dX12_sheet_49 : decode cX12_sheet 49 = .ok (.iload_n 1, 1) := by decide +kernel
theorem dX12_sheet_50 : decode cX12_sheet 50 = .ok (.iload_n 3, 1) := by decide +kernel
theorem dX12_sheet_51 : decode cX12_sheet 51 = .ok (.iastore, 1) := by decide +kernel
theorem dX12_sheet_52 : decode cX12_sheet 52 = .ok (.iconst 0, 1) := by decide +kernel
theorem dX12_sheet_53 : decode cX12_sheet 53 = .ok (.istore 4, 2) := by decide +kernel
theorem dX12_sheet_55 : decode cX12_sheet 55 = .ok (.iload 4, 2) := by decide +kernel
theorem dX12_sheet_57 : decode cX12_sheet 57 = .ok (.iload_n 3, 1) := by decide +kernel
theorem dX12_sheet_58 : decode cX12_sheet 58 = .ok (.if_icmp .ge 22, 3) := by decide +kernel
theorem dX12_sheet_61 : decode cX12_sheet 61 = .ok (.aload_n 0, 1) := by decide +kernel
theorem dX12_sheet_62 : decode cX12_sheet 62 = .ok (.getfield 16, 3) := by decide +kernel
theorem dX12_sheet_65 : decode cX12_sheet 65 = .ok (.bipush 90, 2) := by decide +kernel
theorem dX12_sheet_67 : decode cX12_sheet 67 = .ok (.iload_n 1, 1) := by decide +kernel
theorem dX12_sheet_68 : decode cX12_sheet 68 = .ok (.imul, 1) := by decide +kernel
theorem dX12_sheet_69 : decode cX12_sheet 69 = .ok (.iload 4, 2) := by decide +kernel
theorem dX12_sheet_71 : decode cX12_sheet 71 = .ok (.iadd, 1) := by decide +kernel
theorem dX12_sheet_72 : decode cX12_sheet 72 = .ok (.iconst 0, 1) := by decide +kernel
theorem dX12_sheet_73 : decode cX12_sheet 73 = .ok (.iastore, 1) := by decide +kernel
theorem dX12_sheet_74 : decode cX12_sheet 74 = .ok (.iinc 4 1, 3) := by decide +kernel
theorem dX12_sheet_77 : decode cX12_sheet 77 = .ok (.goto (-22), 3) := by decide +kernel
theorem dX12_sheet_80 : decode cX12_sheet 80 = .ok (.iload_n 3, 1) := by decide +kernel
theorem dX12_sheet_81 : decode cX12_sheet 81 = .ok (.ireturn, 1) := by decide +kernel
theorem dX12_lose_0 : decode cX12_lose 0 = .ok (.iload_n 1, 1) := by decide +kernel
theorem dX12_lose_1 : decode cX12_lose 1 = .ok (.invokestatic 96, 3) := by decide +kernel
theorem dX12_lose_4 : decode cX12_lose 4 = .ok (.ifCond .ne 6, 3) := by decide +kernel
theorem dX12_lose_7 : decode cX12_lose 7 = .ok (.bipush (-2), 2) := by decide +kernel
theorem dX12_lose_9 : decode cX12_lose 9 = .ok (.ireturn, 1) := by decide +kernel
theorem dX12_lose_10 : decode cX12_lose 10 = .ok (.aload_n 0, 1) := by decide +kernel
theorem dX12_lose_11 : decode cX12_lose 11 = .ok (.getfield 7, 3) := by decide +kernel
theorem dX12_lose_14 : decode cX12_lose 14 = .ok (.iload_n 1, 1) := by decide +kernel
theorem dX12_lose_15 : decode cX12_lose 15 = .ok (.iaload, 1) := by decide +kernel
theorem dX12_lose_16 : decode cX12_lose 16 = .ok (.ifCond .ge 9, 3) := by decide +kernel
theorem dX12_lose_19 : decode cX12_lose 19 = .ok (.aload_n 0, 1) := by decide +kernel
theorem dX12_lose_20 : decode cX12_lose 20 = .ok (.iconst 1, 1) := by decide +kernel
theorem dX12_lose_21 : decode cX12_lose 21 = .ok (.invokevirtual 102, 3) := by decide +kernel
theorem dX12_lose_24 : decode cX12_lose 24 = .ok (.ireturn, 1) := by decide +kernel
theorem dX12_lose_25 : decode cX12_lose 25 = .ok (.aload_n 0, 1) := by decide +kernel
theorem dX12_lose_26 : decode cX12_lose 26 = .ok (.getfield 7, 3) := by decide +kernel
theorem dX12_lose_29 : decode cX12_lose 29 = .ok (.iload_n 1, 1) := by decide +kernel
theorem dX12_lose_30 : decode cX12_lose 30 = .ok (.iconst (-1), 1) := by decide +kernel
theorem dX12_lose_31 : decode cX12_lose 31 = .ok (.iastore, 1) := by decide +kernel
theorem dX12_lose_32 : decode cX12_lose 32 = .ok (.aload_n 0, 1) := by decide +kernel
theorem dX12_lose_33 : decode cX12_lose 33 = .ok (.getfield 13, 3) := by decide +kernel
theorem dX12_lose_36 : decode cX12_lose 36 = .ok (.iload_n 1, 1) := by decide +kernel
theorem dX12_lose_37 : decode cX12_lose 37 = .ok (.iaload, 1) := by decide +kernel
theorem dX12_lose_38 : decode cX12_lose 38 = .ok (.ireturn, 1) := by decide +kernel
theorem dX12_lacks_0 : decode cX12_lacks 0 = .ok (.aload_n 0, 1) := by decide +kernel
theorem dX12_lacks_1 : decode cX12_lacks 1 = .ok (.getfield 7, 3) := by decide +kernel
theorem dX12_lacks_4 : decode cX12_lacks 4 = .ok (.iload_n 1, 1) := by decide +kernel
theorem dX12_lacks_5 : decode cX12_lacks 5 = .ok (.iaload, 1) := by decide +kernel
theorem dX12_lacks_6 : decode cX12_lacks 6 = .ok (.ifCond .ge 9, 3) := by decide +kernel
theorem dX12_lacks_9 : decode cX12_lacks 9 = .ok (.aload_n 0, 1) := by decide +kernel
theorem dX12_lacks_10 : decode cX12_lacks 10 = .ok (.iconst 1, 1) := by decide +kernel
theorem dX12_lacks_11 : decode cX12_lacks 11 = .ok (.invokevirtual 102, 3) := by decide +kernel
theorem dX12_lacks_14 : decode cX12_lacks 14 = .ok (.ireturn, 1) := by decide +kernel
theorem dX12_lacks_15 : decode cX12_lacks 15 = .ok (.aload_n 0, 1) := by decide +kernel
theorem dX12_lacks_16 : decode cX12_lacks 16 = .ok (.getfield 7, 3) := by decide +kernel
theorem dX12_lacks_19 : decode cX12_lacks 19 = .ok (.iload_n 1, 1) := by decide +kernel
theorem dX12_lacks_20 : decode cX12_lacks 20 = .ok (.iaload, 1) := by decide +kernel
theorem dX12_lacks_21 : decode cX12_lacks 21 = .ok (.iload_n 2, 1) := by decide +kernel
theorem dX12_lacks_22 : decode cX12_lacks 22 = .ok (.if_icmp .eq 9, 3) := by decide +kernel
theorem dX12_lacks_25 : decode cX12_lacks 25 = .ok (.aload_n 0, 1) := by decide +kernel
theorem dX12_lacks_26 : decode cX12_lacks 26 = .ok (.iconst 3, 1) := by decide +kernel
theorem dX12_lacks_27 : decode cX12_lacks 27 = .ok (.invokevirtual 102, 3) := by decide +kernel
theorem dX12_lacks_30 : decode cX12_lacks 30 = .ok (.ireturn, 1) := by decide +kernel
theorem dX12_lacks_31 : decode cX12_lacks 31 = .ok (.iload_n 3, 1) := by decide +kernel
theorem dX12_lacks_32 : decode cX12_lacks 32 = .ok (.i2l, 1) := by decide +kernel
theorem dX12_lacks_33 : decode cX12_lacks 33 = .ok (.lconst 0, 1) := by decide +kernel
theorem dX12_lacks_34 : decode cX12_lacks 34 = .ok (.aload_n 0, 1) := by decide +kernel
theorem dX12_lacks_35 : decode cX12_lacks 35 = .ok (.getfield 13, 3) := by decide +kernel
theorem dX12_lacks_38 : decode cX12_lacks 38 = .ok (.iload_n 1, 1) := by decide +kernel
theorem dX12_lacks_39 : decode cX12_lacks 39 = .ok (.iaload, 1) := by decide +kernel
theorem dX12_lacks_40 : decode cX12_lacks 40 = .ok (.iconst 1, 1) := by decide +kernel
theorem dX12_lacks_41 : decode cX12_lacks 41 = .ok (.isub, 1) := by decide +kernel
theorem dX12_lacks_42 : decode cX12_lacks 42 = .ok (.i2l, 1) := by decide +kernel
theorem dX12_lacks_43 : decode cX12_lacks 43 = .ok (.invokestatic 92, 3) := by decide +kernel
theorem dX12_lacks_46 : decode cX12_lacks 46 = .ok (.ifCond .eq 7, 3) := by decide +kernel
theorem dX12_lacks_49 : decode cX12_lacks 49 = .ok (.iconst 0, 1) := by decide +kernel
theorem dX12_lacks_50 : decode cX12_lacks 50 = .ok (.goto 8, 3) := by decide +kernel
theorem dX12_lacks_53 : decode cX12_lacks 53 = .ok (.aload_n 0, 1) := by decide +kernel
theorem dX12_lacks_54 : decode cX12_lacks 54 = .ok (.iconst 2, 1) := by decide +kernel
theorem dX12_lacks_55 : decode cX12_lacks 55 = .ok (.invokevirtual 102, 3) := by decide +kernel
theorem dX12_lacks_58 : decode cX12_lacks 58 = .ok (.ireturn, 1) := by decide +kernel
theorem dX12_low_0 : decode cX12_low 0 = .ok (.iload_n 0, 1) := by decide +kernel
theorem dX12_low_1 : decode cX12_low 1 = .ok (.ifCond .ne 8, 3) := by decide +kernel
theorem dX12_low_4 : decode cX12_low 4 = .ok (.iload_n 1, 1) := by decide +kernel
theorem dX12_low_5 : decode cX12_low 5 = .ok (.i2b, 1) := by decide +kernel
theorem dX12_low_6 : decode cX12_low 6 = .ok (.goto 14, 3) := by decide +kernel
theorem dX12_low_9 : decode cX12_low 9 = .ok (.iload_n 0, 1) := by decide +kernel
theorem dX12_low_10 : decode cX12_low 10 = .ok (.iconst 1, 1) := by decide +kernel
theorem dX12_low_11 : decode cX12_low 11 = .ok (.if_icmp .ne 8, 3) := by decide +kernel
theorem dX12_low_14 : decode cX12_low 14 = .ok (.iload_n 1, 1) := by decide +kernel
theorem dX12_low_15 : decode cX12_low 15 = .ok (.i2s, 1) := by decide +kernel
theorem dX12_low_16 : decode cX12_low 16 = .ok (.goto 4, 3) := by decide +kernel
theorem dX12_low_19 : decode cX12_low 19 = .ok (.iload_n 1, 1) := by decide +kernel
theorem dX12_low_20 : decode cX12_low 20 = .ok (.ireturn, 1) := by decide +kernel
theorem dX12_put_0 : decode cX12_put 0 = .ok (.iload_n 1, 1) := by decide +kernel
theorem dX12_put_1 : decode cX12_put 1 = .ok (.invokestatic 96, 3) := by decide +kernel
theorem dX12_put_4 : decode cX12_put 4 = .ok (.ifCond .eq 15, 3) := by decide +kernel
theorem dX12_put_7 : decode cX12_put 7 = .ok (.iload_n 2, 1) := by decide +kernel
theorem dX12_put_8 : decode cX12_put 8 = .ok (.i2l, 1) := by decide +kernel
theorem dX12_put_9 : decode cX12_put 9 = .ok (.lconst 0, 1) := by decide +kernel
theorem dX12_put_10 : decode cX12_put 10 = .ok (.ldc2_w 100, 3) := by decide +kernel
theorem dX12_put_13 : decode cX12_put 13 = .ok (.invokestatic 92, 3) := by decide +kernel
theorem dX12_put_16 : decode cX12_put 16 = .ok (.ifCond .ne 6, 3) := by decide +kernel
theorem dX12_put_19 : decode cX12_put 19 = .ok (.bipush (-2), 2) := by decide +kernel
theorem dX12_put_21 : decode cX12_put 21 = .ok (.ireturn, 1) := by decide +kernel
theorem dX12_put_22 : decode cX12_put 22 = .ok (.aload_n 0, 1) := by decide +kernel
theorem dX12_put_23 : decode cX12_put 23 = .ok (.iload_n 1, 1) := by decide +kernel
theorem dX12_put_24 : decode cX12_put 24 = .ok (.iload_n 2, 1) := by decide +kernel
theorem dX12_put_25 : decode cX12_put 25 = .ok (.iload_n 3, 1) := by decide +kernel
theorem dX12_put_26 : decode cX12_put 26 = .ok (.invokevirtual 106, 3) := by decide +kernel
theorem dX12_put_29 : decode cX12_put 29 = .ok (.istore 5, 2) := by decide +kernel
theorem dX12_put_31 : decode cX12_put 31 = .ok (.iload 5, 2) := by decide +kernel
theorem dX12_put_33 : decode cX12_put 33 = .ok (.ifCond .eq 6, 3) := by decide +kernel
theorem dX12_put_36 : decode cX12_put 36 = .ok (.iload 5, 2) := by decide +kernel
theorem dX12_put_38 : decode cX12_put 38 = .ok (.ireturn, 1) := by decide +kernel
theorem dX12_put_39 : decode cX12_put 39 = .ok (.aload_n 0, 1) := by decide +kernel
theorem dX12_put_40 : decode cX12_put 40 = .ok (.getfield 16, 3) := by decide +kernel
theorem dX12_put_43 : decode cX12_put 43 = .ok (.bipush 90, 2) := by decide +kernel
theorem dX12_put_45 : decode cX12_put 45 = .ok (.iload_n 1, 1) := by decide +kernel
theorem dX12_put_46 : decode cX12_put 46 = .ok (.imul, 1) := by decide +kernel
theorem dX12_put_47 : decode cX12_put 47 = .ok (.iload_n 3, 1) := by decide +kernel
theorem dX12_put_48 : decode cX12_put 48 = .ok (.iadd, 1) := by decide +kernel
theorem dX12_put_49 : decode cX12_put 49 = .ok (.iload_n 2, 1) := by decide +kernel
theorem dX12_put_50 : decode cX12_put 50 = .ok (.iload 4, 2) := by decide +kernel
theorem dX12_put_52 : decode cX12_put 52 = .ok (.invokestatic 110, 3) := by decide +kernel
theorem dX12_put_55 : decode cX12_put 55 = .ok (.iastore, 1) := by decide +kernel
theorem dX12_put_56 : decode cX12_put 56 = .ok (.iconst 1, 1) := by decide +kernel
theorem dX12_put_57 : decode cX12_put 57 = .ok (.ireturn, 1) := by decide +kernel
theorem dX12_get_0 : decode cX12_get 0 = .ok (.iload_n 1, 1) := by decide +kernel
theorem dX12_get_1 : decode cX12_get 1 = .ok (.invokestatic 96, 3) := by decide +kernel
theorem dX12_get_4 : decode cX12_get 4 = .ok (.ifCond .eq 25, 3) := by decide +kernel
theorem dX12_get_7 : decode cX12_get 7 = .ok (.iload_n 2, 1) := by decide +kernel
theorem dX12_get_8 : decode cX12_get 8 = .ok (.i2l, 1) := by decide +kernel
theorem dX12_get_9 : decode cX12_get 9 = .ok (.lconst 0, 1) := by decide +kernel
theorem dX12_get_10 : decode cX12_get 10 = .ok (.ldc2_w 100, 3) := by decide +kernel
theorem dX12_get_13 : decode cX12_get 13 = .ok (.invokestatic 92, 3) := by decide +kernel
theorem dX12_get_16 : decode cX12_get 16 = .ok (.ifCond .eq 13, 3) := by decide +kernel
theorem dX12_get_19 : decode cX12_get 19 = .ok (.aload_n 0, 1) := by decide +kernel
theorem dX12_get_20 : decode cX12_get 20 = .ok (.iload_n 1, 1) := by decide +kernel
theorem dX12_get_21 : decode cX12_get 21 = .ok (.iload_n 2, 1) := by decide +kernel
theorem dX12_get_22 : decode cX12_get 22 = .ok (.iload_n 3, 1) := by decide +kernel
theorem dX12_get_23 : decode cX12_get 23 = .ok (.invokevirtual 106, 3) := by decide +kernel
theorem dX12_get_26 : decode cX12_get 26 = .ok (.ifCond .eq 6, 3) := by decide +kernel
theorem dX12_get_29 : decode cX12_get 29 = .ok (.ldc 114, 2) := by decide +kernel
theorem dX12_get_31 : decode cX12_get 31 = .ok (.ireturn, 1) := by decide +kernel
theorem dX12_get_32 : decode cX12_get 32 = .ok (.aload_n 0, 1) := by decide +kernel
theorem dX12_get_33 : decode cX12_get 33 = .ok (.getfield 16, 3) := by decide +kernel
theorem dX12_get_36 : decode cX12_get 36 = .ok (.bipush 90, 2) := by decide +kernel
theorem dX12_get_38 : decode cX12_get 38 = .ok (.iload_n 1, 1) := by decide +kernel
theorem dX12_get_39 : decode cX12_get 39 = .ok (.imul, 1) := by decide +kernel
theorem dX12_get_40 : decode cX12_get 40 = .ok (.iload_n 3, 1) := by decide +kernel
theorem dX12_get_41 : decode cX12_get 41 = .ok (.iadd, 1) := by decide +kernel
theorem dX12_get_42 : decode cX12_get 42 = .ok (.iaload, 1) := by decide +kernel
theorem dX12_get_43 : decode cX12_get 43 = .ok (.ireturn, 1) := by decide +kernel
theorem dX12_copy_0 : decode cX12_copy 0 = .ok (.iload_n 1, 1) := by decide +kernel
theorem dX12_copy_1 : decode cX12_copy 1 = .ok (.invokestatic 96, 3) := by decide +kernel
theorem dX12_copy_4 : decode cX12_copy 4 = .ok (.ifCond .eq 10, 3) := by decide +kernel
theorem dX12_copy_7 : decode cX12_copy 7 = .ok (.iload_n 3, 1) := by decide +kernel
theorem dX12_copy_8 : decode cX12_copy 8 = .ok (.invokestatic 96, 3) := by decide +kernel
theorem dX12_copy_11 : decode cX12_copy 11 = .ok (.ifCond .ne 6, 3) := by decide +kernel
theorem dX12_copy_14 : decode cX12_copy 14 = .ok (.bipush (-2), 2) := by decide +kernel
theorem dX12_copy_16 : decode cX12_copy 16 = .ok (.ireturn, 1) := by decide +kernel
theorem dX12_copy_17 : decode cX12_copy 17 = .ok (.aload_n 0, 1) := by decide +kernel
theorem dX12_copy_18 : decode cX12_copy 18 = .ok (.getfield 7, 3) := by decide +kernel
theorem dX12_copy_21 : decode cX12_copy 21 = .ok (.iload_n 1, 1) := by decide +kernel
theorem dX12_copy_22 : decode cX12_copy 22 = .ok (.iaload, 1) := by decide +kernel
theorem dX12_copy_23 : decode cX12_copy 23 = .ok (.ifCond .lt 12, 3) := by decide +kernel
theorem dX12_copy_26 : decode cX12_copy 26 = .ok (.aload_n 0, 1) := by decide +kernel
theorem dX12_copy_27 : decode cX12_copy 27 = .ok (.getfield 7, 3) := by decide +kernel
theorem dX12_copy_30 : decode cX12_copy 30 = .ok (.iload_n 3, 1) := by decide +kernel
theorem dX12_copy_31 : decode cX12_copy 31 = .ok (.iaload, 1) := by decide +kernel
theorem dX12_copy_32 : decode cX12_copy 32 = .ok (.ifCond .ge 9, 3) := by decide +kernel
theorem dX12_copy_35 : decode cX12_copy 35 = .ok (.aload_n 0, 1) := by decide +kernel
theorem dX12_copy_36 : decode cX12_copy 36 = .ok (.iconst 1, 1) := by decide +kernel
theorem dX12_copy_37 : decode cX12_copy 37 = .ok (.invokevirtual 102, 3) := by decide +kernel
theorem dX12_copy_40 : decode cX12_copy 40 = .ok (.ireturn, 1) := by decide +kernel
theorem dX12_copy_41 : decode cX12_copy 41 = .ok (.aload_n 0, 1) := by decide +kernel
theorem dX12_copy_42 : decode cX12_copy 42 = .ok (.getfield 7, 3) := by decide +kernel
theorem dX12_copy_45 : decode cX12_copy 45 = .ok (.iload_n 1, 1) := by decide +kernel
theorem dX12_copy_46 : decode cX12_copy 46 = .ok (.iaload, 1) := by decide +kernel
theorem dX12_copy_47 : decode cX12_copy 47 = .ok (.aload_n 0, 1) := by decide +kernel
theorem dX12_copy_48 : decode cX12_copy 48 = .ok (.getfield 7, 3) := by decide +kernel
theorem dX12_copy_51 : decode cX12_copy 51 = .ok (.iload_n 3, 1) := by decide +kernel
theorem dX12_copy_52 : decode cX12_copy 52 = .ok (.iaload, 1) := by decide +kernel
theorem dX12_copy_53 : decode cX12_copy 53 = .ok (.if_icmp .eq 9, 3) := by decide +kernel
theorem dX12_copy_56 : decode cX12_copy 56 = .ok (.aload_n 0, 1) := by decide +kernel
theorem dX12_copy_57 : decode cX12_copy 57 = .ok (.iconst 4, 1) := by decide +kernel
theorem dX12_copy_58 : decode cX12_copy 58 = .ok (.invokevirtual 102, 3) := by decide +kernel
theorem dX12_copy_61 : decode cX12_copy 61 = .ok (.ireturn, 1) := by decide +kernel
theorem dX12_copy_62 : decode cX12_copy 62 = .ok (.iload_n 2, 1) := by decide +kernel
theorem dX12_copy_63 : decode cX12_copy 63 = .ok (.ifCond .lt 48, 3) := by decide +kernel
theorem dX12_copy_66 : decode cX12_copy 66 = .ok (.iload 4, 2) := by decide +kernel
theorem dX12_copy_68 : decode cX12_copy 68 = .ok (.ifCond .lt 43, 3) := by decide +kernel
theorem dX12_copy_71 : decode cX12_copy 71 = .ok (.iload 5, 2) := by decide +kernel
theorem dX12_copy_73 : decode cX12_copy 73 = .ok (.ifCond .lt 38, 3) := by decide +kernel
theorem dX12_copy_76 : decode cX12_copy 76 = .ok (.iload_n 2, 1) := by decide +kernel
theorem dX12_copy_77 : decode cX12_copy 77 = .ok (.i2l, 1) := by decide +kernel
theorem dX12_copy_78 : decode cX12_copy 78 = .ok (.iload 5, 2) := by decide +kernel
theorem dX12_copy_80 : decode cX12_copy 80 = .ok (.i2l, 1) := by decide +kernel
theorem dX12_copy_81 : decode cX12_copy 81 = .ok (.ladd, 1) := by decide +kernel
theorem dX12_copy_82 : decode cX12_copy 82 = .ok (.aload_n 0, 1) := by decide +kernel
theorem dX12_copy_83 : decode cX12_copy 83 = .ok (.getfield 13, 3) := by decide +kernel
theorem dX12_copy_86 : decode cX12_copy 86 = .ok (.iload_n 1, 1) := by decide +kernel
theorem dX12_copy_87 : decode cX12_copy 87 = .ok (.iaload, 1) := by decide +kernel
theorem dX12_copy_88 : decode cX12_copy 88 = .ok (.i2l, 1) := by decide +kernel
theorem dX12_copy_89 : decode cX12_copy 89 = .ok (.lcmp, 1) := by decide +kernel
theorem dX12_copy_90 : decode cX12_copy 90 = .ok (.ifCond .gt 21, 3) := by decide +kernel
theorem dX12_copy_93 : decode cX12_copy 93 = .ok (.iload 4, 2) := by decide +kernel
theorem dX12_copy_95 : decode cX12_copy 95 = .ok (.i2l, 1) := by decide +kernel
theorem dX12_copy_96 : decode cX12_copy 96 = .ok (.iload 5, 2) := by decide +kernel
theorem dX12_copy_98 : decode cX12_copy 98 = .ok (.i2l, 1) := by decide +kernel
theorem dX12_copy_99 : decode cX12_copy 99 = .ok (.ladd, 1) := by decide +kernel
theorem dX12_copy_100 : decode cX12_copy 100 = .ok (.aload_n 0, 1) := by decide +kernel
theorem dX12_copy_101 : decode cX12_copy 101 = .ok (.getfield 13, 3) := by decide +kernel
theorem dX12_copy_104 : decode cX12_copy 104 = .ok (.iload_n 3, 1) := by decide +kernel
theorem dX12_copy_105 : decode cX12_copy 105 = .ok (.iaload, 1) := by decide +kernel
theorem dX12_copy_106 : decode cX12_copy 106 = .ok (.i2l, 1) := by decide +kernel
theorem dX12_copy_107 : decode cX12_copy 107 = .ok (.lcmp, 1) := by decide +kernel
theorem dX12_copy_108 : decode cX12_copy 108 = .ok (.ifCond .le 9, 3) := by decide +kernel
theorem dX12_copy_111 : decode cX12_copy 111 = .ok (.aload_n 0, 1) := by decide +kernel
theorem dX12_copy_112 : decode cX12_copy 112 = .ok (.iconst 2, 1) := by decide +kernel
theorem dX12_copy_113 : decode cX12_copy 113 = .ok (.invokevirtual 102, 3) := by decide +kernel
theorem dX12_copy_116 : decode cX12_copy 116 = .ok (.ireturn, 1) := by decide +kernel
theorem dX12_copy_117 : decode cX12_copy 117 = .ok (.iconst 0, 1) := by decide +kernel
theorem dX12_copy_118 : decode cX12_copy 118 = .ok (.istore 6, 2) := by decide +kernel
theorem dX12_copy_120 : decode cX12_copy 120 = .ok (.iload 6, 2) := by decide +kernel
theorem dX12_copy_122 : decode cX12_copy 122 = .ok (.iload 5, 2) := by decide +kernel
theorem dX12_copy_124 : decode cX12_copy 124 = .ok (.if_icmp .ge 30, 3) := by decide +kernel
theorem dX12_copy_127 : decode cX12_copy 127 = .ok (.aload_n 0, 1) := by decide +kernel
theorem dX12_copy_128 : decode cX12_copy 128 = .ok (.getfield 19, 3) := by decide +kernel
theorem dX12_copy_131 : decode cX12_copy 131 = .ok (.iload 6, 2) := by decide +kernel
theorem dX12_copy_133 : decode cX12_copy 133 = .ok (.aload_n 0, 1) := by decide +kernel
theorem dX12_copy_134 : decode cX12_copy 134 = .ok (.getfield 16, 3) := by decide +kernel
theorem dX12_copy_137 : decode cX12_copy 137 = .ok (.bipush 90, 2) := by decide +kernel
theorem dX12_copy_139 : decode cX12_copy 139 = .ok (.iload_n 1, 1) := by decide +kernel
theorem dX12_copy_140 : decode cX12_copy 140 = .ok (.imul, 1) := by decide +kernel
theorem dX12_copy_141 : decode cX12_copy 141 = .ok (.iload_n 2, 1) := by decide +kernel
theorem dX12_copy_142 : decode cX12_copy 142 = .ok (.iadd, 1) := by decide +kernel
theorem dX12_copy_143 : decode cX12_copy 143 = .ok (.iload 6, 2) := by decide +kernel
theorem dX12_copy_145 : decode cX12_copy 145 = .ok (.iadd, 1) := by decide +kernel
theorem dX12_copy_146 : decode cX12_copy 146 = .ok (.iaload, 1) := by decide +kernel
theorem dX12_copy_147 : decode cX12_copy 147 = .ok (.iastore, 1) := by decide +kernel
theorem dX12_copy_148 : decode cX12_copy 148 = .ok (.iinc 6 1, 3) := by decide +kernel
theorem dX12_copy_151 : decode cX12_copy 151 = .ok (.goto (-31), 3) := by decide +kernel
theorem dX12_copy_154 : decode cX12_copy 154 = .ok (.iconst 0, 1) := by decide +kernel
theorem dX12_copy_155 : decode cX12_copy 155 = .ok (.istore 6, 2) := by decide +kernel
theorem dX12_copy_157 : decode cX12_copy 157 = .ok (.iload 6, 2) := by decide +kernel
theorem dX12_copy_159 : decode cX12_copy 159 = .ok (.iload 5, 2) := by decide +kernel
theorem dX12_copy_161 : decode cX12_copy 161 = .ok (.if_icmp .ge 31, 3) := by decide +kernel
theorem dX12_copy_164 : decode cX12_copy 164 = .ok (.aload_n 0, 1) := by decide +kernel
theorem dX12_copy_165 : decode cX12_copy 165 = .ok (.getfield 16, 3) := by decide +kernel
theorem dX12_copy_168 : decode cX12_copy 168 = .ok (.bipush 90, 2) := by decide +kernel
theorem dX12_copy_170 : decode cX12_copy 170 = .ok (.iload_n 3, 1) := by decide +kernel
theorem dX12_copy_171 : decode cX12_copy 171 = .ok (.imul, 1) := by decide +kernel
theorem dX12_copy_172 : decode cX12_copy 172 = .ok (.iload 4, 2) := by decide +kernel
theorem dX12_copy_174 : decode cX12_copy 174 = .ok (.iadd, 1) := by decide +kernel
theorem dX12_copy_175 : decode cX12_copy 175 = .ok (.iload 6, 2) := by decide +kernel
theorem dX12_copy_177 : decode cX12_copy 177 = .ok (.iadd, 1) := by decide +kernel
theorem dX12_copy_178 : decode cX12_copy 178 = .ok (.aload_n 0, 1) := by decide +kernel
theorem dX12_copy_179 : decode cX12_copy 179 = .ok (.getfield 19, 3) := by decide +kernel
theorem dX12_copy_182 : decode cX12_copy 182 = .ok (.iload 6, 2) := by decide +kernel
theorem dX12_copy_184 : decode cX12_copy 184 = .ok (.iaload, 1) := by decide +kernel
theorem dX12_copy_185 : decode cX12_copy 185 = .ok (.iastore, 1) := by decide +kernel
theorem dX12_copy_186 : decode cX12_copy 186 = .ok (.iinc 6 1, 3) := by decide +kernel
theorem dX12_copy_189 : decode cX12_copy 189 = .ok (.goto (-32), 3) := by decide +kernel
theorem dX12_copy_192 : decode cX12_copy 192 = .ok (.iconst 1, 1) := by decide +kernel
theorem dX12_copy_193 : decode cX12_copy 193 = .ok (.ireturn, 1) := by decide +kernel
theorem dX12_isName_0 : decode cX12_isName 0 = .ok (.iload_n 1, 1) := by decide +kernel
theorem dX12_isName_1 : decode cX12_isName 1 = .ok (.i2l, 1) := by decide +kernel
theorem dX12_isName_2 : decode cX12_isName 2 = .ok (.lconst 0, 1) := by decide +kernel
theorem dX12_isName_3 : decode cX12_isName 3 = .ok (.aload_n 0, 1) := by decide +kernel
theorem dX12_isName_4 : decode cX12_isName 4 = .ok (.getfield 115, 3) := by decide +kernel
theorem dX12_isName_7 : decode cX12_isName 7 = .ok (.iconst 1, 1) := by decide +kernel
theorem dX12_isName_8 : decode cX12_isName 8 = .ok (.isub, 1) := by decide +kernel
theorem dX12_isName_9 : decode cX12_isName 9 = .ok (.i2l, 1) := by decide +kernel
theorem dX12_isName_10 : decode cX12_isName 10 = .ok (.invokestatic 92, 3) := by decide +kernel
theorem dX12_isName_13 : decode cX12_isName 13 = .ok (.ireturn, 1) := by decide +kernel
theorem dX12_isDay_0 : decode cX12_isDay 0 = .ok (.iload_n 0, 1) := by decide +kernel
theorem dX12_isDay_1 : decode cX12_isDay 1 = .ok (.i2l, 1) := by decide +kernel
theorem dX12_isDay_2 : decode cX12_isDay 2 = .ok (.lconst 0, 1) := by decide +kernel
theorem dX12_isDay_3 : decode cX12_isDay 3 = .ok (.ldc2_w 118, 3) := by decide +kernel
theorem dX12_isDay_6 : decode cX12_isDay 6 = .ok (.invokestatic 92, 3) := by decide +kernel
theorem dX12_isDay_9 : decode cX12_isDay 9 = .ok (.ireturn, 1) := by decide +kernel
theorem dX12_name_0 : decode cX12_name 0 = .ok (.iload_n 1, 1) := by decide +kernel
theorem dX12_name_1 : decode cX12_name 1 = .ok (.i2l, 1) := by decide +kernel
theorem dX12_name_2 : decode cX12_name 2 = .ok (.lconst 0, 1) := by decide +kernel
theorem dX12_name_3 : decode cX12_name 3 = .ok (.ldc2_w 90, 3) := by decide +kernel
theorem dX12_name_6 : decode cX12_name 6 = .ok (.invokestatic 92, 3) := by decide +kernel
theorem dX12_name_9 : decode cX12_name 9 = .ok (.ifCond .eq 40, 3) := by decide +kernel
theorem dX12_name_12 : decode cX12_name 12 = .ok (.iload_n 2, 1) := by decide +kernel
theorem dX12_name_13 : decode cX12_name 13 = .ok (.i2l, 1) := by decide +kernel
theorem dX12_name_14 : decode cX12_name 14 = .ok (.lconst 0, 1) := by decide +kernel
theorem dX12_name_15 : decode cX12_name 15 = .ok (.ldc2_w 120, 3) := by decide +kernel
theorem dX12_name_18 : decode cX12_name 18 = .ok (.invokestatic 92, 3) := by decide +kernel
theorem dX12_name_21 : decode cX12_name 21 = .ok (.ifCond .eq 28, 3) := by decide +kernel
theorem dX12_name_24 : decode cX12_name 24 = .ok (.iload_n 3, 1) := by decide +kernel
theorem dX12_name_25 : decode cX12_name 25 = .ok (.i2l, 1) := by decide +kernel
theorem dX12_name_26 : decode cX12_name 26 = .ok (.lconst 1, 1) := by decide +kernel
theorem dX12_name_27 : decode cX12_name 27 = .ok (.ldc2_w 122, 3) := by decide +kernel
theorem dX12_name_30 : decode cX12_name 30 = .ok (.invokestatic 92, 3) := by decide +kernel
theorem dX12_name_33 : decode cX12_name 33 = .ok (.ifCond .eq 16, 3) := by decide +kernel
theorem dX12_name_36 : decode cX12_name 36 = .ok (.iload 4, 2) := by decide +kernel
theorem dX12_name_38 : decode cX12_name 38 = .ok (.i2l, 1) := by decide +kernel
theorem dX12_name_39 : decode cX12_name 39 = .ok (.lconst 0, 1) := by decide +kernel
theorem dX12_name_40 : decode cX12_name 40 = .ok (.ldc2_w 100, 3) := by decide +kernel
theorem dX12_name_43 : decode cX12_name 43 = .ok (.invokestatic 92, 3) := by decide +kernel
theorem dX12_name_46 : decode cX12_name 46 = .ok (.ifCond .ne 6, 3) := by decide +kernel
theorem dX12_name_49 : decode cX12_name 49 = .ok (.bipush (-2), 2) := by decide +kernel
theorem dX12_name_51 : decode cX12_name 51 = .ok (.ireturn, 1) := by decide +kernel
theorem dX12_name_52 : decode cX12_name 52 = .ok (.aload_n 0, 1) := by decide +kernel
theorem dX12_name_53 : decode cX12_name 53 = .ok (.getfield 115, 3) := by decide +kernel
theorem dX12_name_56 : decode cX12_name 56 = .ok (.bipush 30, 2) := by decide +kernel
theorem dX12_name_58 : decode cX12_name 58 = .ok (.if_icmp .ne 6, 3) := by decide +kernel
theorem dX12_name_61 : decode cX12_name 61 = .ok (.bipush (-4), 2) := by decide +kernel
theorem dX12_name_63 : decode cX12_name 63 = .ok (.ireturn, 1) := by decide +kernel
theorem dX12_name_64 : decode cX12_name 64 = .ok (.aload_n 0, 1) := by decide +kernel
theorem dX12_name_65 : decode cX12_name 65 = .ok (.getfield 22, 3) := by decide +kernel
theorem dX12_name_68 : decode cX12_name 68 = .ok (.aload_n 0, 1) := by decide +kernel
theorem dX12_name_69 : decode cX12_name 69 = .ok (.getfield 115, 3) := by decide +kernel
theorem dX12_name_72 : decode cX12_name 72 = .ok (.iload_n 1, 1) := by decide +kernel
theorem dX12_name_73 : decode cX12_name 73 = .ok (.iastore, 1) := by decide +kernel
theorem dX12_name_74 : decode cX12_name 74 = .ok (.aload_n 0, 1) := by decide +kernel
theorem dX12_name_75 : decode cX12_name 75 = .ok (.getfield 25, 3) := by decide +kernel
theorem dX12_name_78 : decode cX12_name 78 = .ok (.aload_n 0, 1) := by decide +kernel
theorem dX12_name_79 : decode cX12_name 79 = .ok (.getfield 115, 3) := by decide +kernel
theorem dX12_name_82 : decode cX12_name 82 = .ok (.iload_n 2, 1) := by decide +kernel
theorem dX12_name_83 : decode cX12_name 83 = .ok (.iastore, 1) := by decide +kernel
theorem dX12_name_84 : decode cX12_name 84 = .ok (.aload_n 0, 1) := by decide +kernel
theorem dX12_name_85 : decode cX12_name 85 = .ok (.getfield 28, 3) := by decide +kernel
theorem dX12_name_88 : decode cX12_name 88 = .ok (.aload_n 0, 1) := by decide +kernel
theorem dX12_name_89 : decode cX12_name 89 = .ok (.getfield 115, 3) := by decide +kernel
theorem dX12_name_92 : decode cX12_name 92 = .ok (.iload_n 3, 1) := by decide +kernel
theorem dX12_name_93 : decode cX12_name 93 = .ok (.iastore, 1) := by decide +kernel
theorem dX12_name_94 : decode cX12_name 94 = .ok (.aload_n 0, 1) := by decide +kernel
theorem dX12_name_95 : decode cX12_name 95 = .ok (.getfield 31, 3) := by decide +kernel
theorem dX12_name_98 : decode cX12_name 98 = .ok (.aload_n 0, 1) := by decide +kernel
theorem dX12_name_99 : decode cX12_name 99 = .ok (.getfield 115, 3) := by decide +kernel
theorem dX12_name_102 : decode cX12_name 102 = .ok (.iload 4, 2) := by decide +kernel
theorem dX12_name_104 : decode cX12_name 104 = .ok (.iastore, 1) := by decide +kernel
theorem dX12_name_105 : decode cX12_name 105 = .ok (.aload_n 0, 1) := by decide +kernel
theorem dX12_name_106 : decode cX12_name 106 = .ok (.dup, 1) := by decide +kernel
theorem dX12_name_107 : decode cX12_name 107 = .ok (.getfield 115, 3) := by decide +kernel
theorem dX12_name_110 : decode cX12_name 110 = .ok (.iconst 1, 1) := by decide +kernel
theorem dX12_name_111 : decode cX12_name 111 = .ok (.iadd, 1) := by decide +kernel
theorem dX12_name_112 : decode cX12_name 112 = .ok (.putfield 115, 3) := by decide +kernel
theorem dX12_name_115 : decode cX12_name 115 = .ok (.aload_n 0, 1) := by decide +kernel
theorem dX12_name_116 : decode cX12_name 116 = .ok (.getfield 115, 3) := by decide +kernel
theorem dX12_name_119 : decode cX12_name 119 = .ok (.iconst 1, 1) := by decide +kernel
theorem dX12_name_120 : decode cX12_name 120 = .ok (.isub, 1) := by decide +kernel
theorem dX12_name_121 : decode cX12_name 121 = .ok (.ireturn, 1) := by decide +kernel
theorem dX12_read_0 : decode cX12_read 0 = .ok (.iload_n 1, 1) := by decide +kernel
theorem dX12_read_1 : decode cX12_read 1 = .ok (.invokestatic 96, 3) := by decide +kernel
theorem dX12_read_4 : decode cX12_read 4 = .ok (.ifCond .ne 6, 3) := by decide +kernel
theorem dX12_read_7 : decode cX12_read 7 = .ok (.bipush (-2), 2) := by decide +kernel
theorem dX12_read_9 : decode cX12_read 9 = .ok (.ireturn, 1) := by decide +kernel
theorem dX12_read_10 : decode cX12_read 10 = .ok (.aload_n 0, 1) := by decide +kernel
theorem dX12_read_11 : decode cX12_read 11 = .ok (.getfield 7, 3) := by decide +kernel
theorem dX12_read_14 : decode cX12_read 14 = .ok (.iload_n 1, 1) := by decide +kernel
theorem dX12_read_15 : decode cX12_read 15 = .ok (.iaload, 1) := by decide +kernel
theorem dX12_read_16 : decode cX12_read 16 = .ok (.ifCond .ge 9, 3) := by decide +kernel
theorem dX12_read_19 : decode cX12_read 19 = .ok (.aload_n 0, 1) := by decide +kernel
theorem dX12_read_20 : decode cX12_read 20 = .ok (.iconst 1, 1) := by decide +kernel
theorem dX12_read_21 : decode cX12_read 21 = .ok (.invokevirtual 102, 3) := by decide +kernel
theorem dX12_read_24 : decode cX12_read 24 = .ok (.ireturn, 1) := by decide +kernel
theorem dX12_read_25 : decode cX12_read 25 = .ok (.iconst 0, 1) := by decide +kernel
theorem dX12_read_26 : decode cX12_read 26 = .ok (.istore_n 2, 1) := by decide +kernel
theorem dX12_read_27 : decode cX12_read 27 = .ok (.iconst 1, 1) := by decide +kernel
theorem dX12_read_28 : decode cX12_read 28 = .ok (.istore_n 3, 1) := by decide +kernel
theorem dX12_read_29 : decode cX12_read 29 = .ok (.iload_n 3, 1) := by decide +kernel
theorem dX12_read_30 : decode cX12_read 30 = .ok (.ifCond .eq 89, 3) := by decide +kernel
theorem dX12_read_33 : decode cX12_read 33 = .ok (.iconst 4, 1) := by decide +kernel
theorem dX12_read_34 : decode cX12_read 34 = .ok (.iload_n 2, 1) := by decide +kernel
theorem dX12_read_35 : decode cX12_read 35 = .ok (.imul, 1) := by decide +kernel
theorem dX12_read_36 : decode cX12_read 36 = .ok (.iconst 4, 1) := by decide +kernel
theorem dX12_read_37 : decode cX12_read 37 = .ok (.iadd, 1) := by decide +kernel
theorem dX12_read_38 : decode cX12_read 38 = .ok (.aload_n 0, 1) := by decide +kernel
theorem dX12_read_39 : decode cX12_read 39 = .ok (.getfield 13, 3) := by decide +kernel
theorem dX12_read_42 : decode cX12_read 42 = .ok (.iload_n 1, 1) := by decide +kernel
theorem dX12_read_43 : decode cX12_read 43 = .ok (.iaload, 1) := by decide +kernel
theorem dX12_read_44 : decode cX12_read 44 = .ok (.if_icmp .gt 75, 3) := by decide +kernel
theorem dX12_read_47 : decode cX12_read 47 = .ok (.bipush 90, 2) := by decide +kernel
theorem dX12_read_49 : decode cX12_read 49 = .ok (.iload_n 1, 1) := by decide +kernel
theorem dX12_read_50 : decode cX12_read 50 = .ok (.imul, 1) := by decide +kernel
theorem dX12_read_51 : decode cX12_read 51 = .ok (.iconst 4, 1) := by decide +kernel
theorem dX12_read_52 : decode cX12_read 52 = .ok (.iload_n 2, 1) := by decide +kernel
theorem dX12_read_53 : decode cX12_read 53 = .ok (.imul, 1) := by decide +kernel
theorem dX12_read_54 : decode cX12_read 54 = .ok (.iadd, 1) := by decide +kernel
theorem dX12_read_55 : decode cX12_read 55 = .ok (.istore 4, 2) := by decide +kernel
theorem dX12_read_57 : decode cX12_read 57 = .ok (.aload_n 0, 1) := by decide +kernel
theorem dX12_read_58 : decode cX12_read 58 = .ok (.aload_n 0, 1) := by decide +kernel
theorem dX12_read_59 : decode cX12_read 59 = .ok (.getfield 16, 3) := by decide +kernel
theorem dX12_read_62 : decode cX12_read 62 = .ok (.iload 4, 2) := by decide +kernel
theorem dX12_read_64 : decode cX12_read 64 = .ok (.iaload, 1) := by decide +kernel
theorem dX12_read_65 : decode cX12_read 65 = .ok (.aload_n 0, 1) := by decide +kernel
theorem dX12_read_66 : decode cX12_read 66 = .ok (.getfield 16, 3) := by decide +kernel
theorem dX12_read_69 : decode cX12_read 69 = .ok (.iload 4, 2) := by decide +kernel
theorem dX12_read_71 : decode cX12_read 71 = .ok (.iconst 1, 1) := by decide +kernel
theorem dX12_read_72 : decode cX12_read 72 = .ok (.iadd, 1) := by decide +kernel
theorem dX12_read_73 : decode cX12_read 73 = .ok (.iaload, 1) := by decide +kernel
theorem dX12_read_74 : decode cX12_read 74 = .ok (.aload_n 0, 1) := by decide +kernel
theorem dX12_read_75 : decode cX12_read 75 = .ok (.getfield 16, 3) := by decide +kernel
theorem dX12_read_78 : decode cX12_read 78 = .ok (.iload 4, 2) := by decide +kernel
theorem dX12_read_80 : decode cX12_read 80 = .ok (.iconst 2, 1) := by decide +kernel
theorem dX12_read_81 : decode cX12_read 81 = .ok (.iadd, 1) := by decide +kernel
theorem dX12_read_82 : decode cX12_read 82 = .ok (.iaload, 1) := by decide +kernel
theorem dX12_read_83 : decode cX12_read 83 = .ok (.aload_n 0, 1) := by decide +kernel
theorem dX12_read_84 : decode cX12_read 84 = .ok (.getfield 16, 3) := by decide +kernel
theorem dX12_read_87 : decode cX12_read 87 = .ok (.iload 4, 2) := by decide +kernel
theorem dX12_read_89 : decode cX12_read 89 = .ok (.iconst 3, 1) := by decide +kernel
theorem dX12_read_90 : decode cX12_read 90 = .ok (.iadd, 1) := by decide +kernel
theorem dX12_read_91 : decode cX12_read 91 = .ok (.iaload, 1) := by decide +kernel
theorem dX12_read_92 : decode cX12_read 92 = .ok (.invokevirtual 124, 3) := by decide +kernel
theorem dX12_read_95 : decode cX12_read 95 = .ok (.ifCond .lt 7, 3) := by decide +kernel
theorem dX12_read_98 : decode cX12_read 98 = .ok (.iconst 1, 1) := by decide +kernel
theorem dX12_read_99 : decode cX12_read 99 = .ok (.goto 4, 3) := by decide +kernel
theorem dX12_read_102 : decode cX12_read 102 = .ok (.iconst 0, 1) := by decide +kernel
theorem dX12_read_103 : decode cX12_read 103 = .ok (.istore_n 3, 1) := by decide +kernel
theorem dX12_read_104 : decode cX12_read 104 = .ok (.iload_n 2, 1) := by decide +kernel
theorem dX12_read_105 : decode cX12_read 105 = .ok (.iload_n 3, 1) := by decide +kernel
theorem dX12_read_106 : decode cX12_read 106 = .ok (.ifCond .eq 7, 3) := by decide +kernel
theorem dX12_read_109 : decode cX12_read 109 = .ok (.iconst 1, 1) := by decide +kernel
theorem dX12_read_110 : decode cX12_read 110 = .ok (.goto 4, 3) := by decide +kernel
theorem dX12_read_113 : decode cX12_read 113 = .ok (.iconst 0, 1) := by decide +kernel
theorem dX12_read_114 : decode cX12_read 114 = .ok (.iadd, 1) := by decide +kernel
theorem dX12_read_115 : decode cX12_read 115 = .ok (.istore_n 2, 1) := by decide +kernel
theorem dX12_read_116 : decode cX12_read 116 = .ok (.goto (-87), 3) := by decide +kernel
theorem dX12_read_119 : decode cX12_read 119 = .ok (.iload_n 2, 1) := by decide +kernel
theorem dX12_read_120 : decode cX12_read 120 = .ok (.ireturn, 1) := by decide +kernel
theorem dX12_valueOf_0 : decode cX12_valueOf 0 = .ok (.iconst (-1), 1) := by decide +kernel
theorem dX12_valueOf_1 : decode cX12_valueOf 1 = .ok (.istore_n 2, 1) := by decide +kernel
theorem dX12_valueOf_2 : decode cX12_valueOf 2 = .ok (.iconst 0, 1) := by decide +kernel
theorem dX12_valueOf_3 : decode cX12_valueOf 3 = .ok (.istore_n 3, 1) := by decide +kernel
theorem dX12_valueOf_4 : decode cX12_valueOf 4 = .ok (.iload_n 3, 1) := by decide +kernel
theorem dX12_valueOf_5 : decode cX12_valueOf 5 = .ok (.aload_n 0, 1) := by decide +kernel
theorem dX12_valueOf_6 : decode cX12_valueOf 6 = .ok (.getfield 128, 3) := by decide +kernel
theorem dX12_valueOf_9 : decode cX12_valueOf 9 = .ok (.if_icmp .ge 54, 3) := by decide +kernel
theorem dX12_valueOf_12 : decode cX12_valueOf 12 = .ok (.aload_n 0, 1) := by decide +kernel
theorem dX12_valueOf_13 : decode cX12_valueOf 13 = .ok (.getfield 34, 3) := by decide +kernel
theorem dX12_valueOf_16 : decode cX12_valueOf 16 = .ok (.iload_n 3, 1) := by decide +kernel
theorem dX12_valueOf_17 : decode cX12_valueOf 17 = .ok (.iaload, 1) := by decide +kernel
theorem dX12_valueOf_18 : decode cX12_valueOf 18 = .ok (.iload_n 1, 1) := by decide +kernel
theorem dX12_valueOf_19 : decode cX12_valueOf 19 = .ok (.if_icmp .ne 38, 3) := by decide +kernel
theorem dX12_valueOf_22 : decode cX12_valueOf 22 = .ok (.aload_n 0, 1) := by decide +kernel
theorem dX12_valueOf_23 : decode cX12_valueOf 23 = .ok (.getfield 40, 3) := by decide +kernel
theorem dX12_valueOf_26 : decode cX12_valueOf 26 = .ok (.iload_n 3, 1) := by decide +kernel
theorem dX12_valueOf_27 : decode cX12_valueOf 27 = .ok (.iaload, 1) := by decide +kernel
theorem dX12_valueOf_28 : decode cX12_valueOf 28 = .ok (.aload_n 0, 1) := by decide +kernel
theorem dX12_valueOf_29 : decode cX12_valueOf 29 = .ok (.getfield 43, 3) := by decide +kernel
theorem dX12_valueOf_32 : decode cX12_valueOf 32 = .ok (.if_icmp .gt 25, 3) := by decide +kernel
theorem dX12_valueOf_35 : decode cX12_valueOf 35 = .ok (.iload_n 2, 1) := by decide +kernel
theorem dX12_valueOf_36 : decode cX12_valueOf 36 = .ok (.iconst (-1), 1) := by decide +kernel
theorem dX12_valueOf_37 : decode cX12_valueOf 37 = .ok (.if_icmp .eq 18, 3) := by decide +kernel
theorem dX12_valueOf_40 : decode cX12_valueOf 40 = .ok (.aload_n 0, 1) := by decide +kernel
theorem dX12_valueOf_41 : decode cX12_valueOf 41 = .ok (.getfield 40, 3) := by decide +kernel
theorem dX12_valueOf_44 : decode cX12_valueOf 44 = .ok (.iload_n 3, 1) := by decide +kernel
theorem dX12_valueOf_45 : decode cX12_valueOf 45 = .ok (.iaload, 1) := by decide +kernel
theorem dX12_valueOf_46 : decode cX12_valueOf 46 = .ok (.aload_n 0, 1) := by decide +kernel
theorem dX12_valueOf_47 : decode cX12_valueOf 47 = .ok (.getfield 40, 3) := by decide +kernel
theorem dX12_valueOf_50 : decode cX12_valueOf 50 = .ok (.iload_n 2, 1) := by decide +kernel
theorem dX12_valueOf_51 : decode cX12_valueOf 51 = .ok (.iaload, 1) := by decide +kernel
theorem dX12_valueOf_52 : decode cX12_valueOf 52 = .ok (.if_icmp .lt 5, 3) := by decide +kernel
theorem dX12_valueOf_55 : decode cX12_valueOf 55 = .ok (.iload_n 3, 1) := by decide +kernel
theorem dX12_valueOf_56 : decode cX12_valueOf 56 = .ok (.istore_n 2, 1) := by decide +kernel
theorem dX12_valueOf_57 : decode cX12_valueOf 57 = .ok (.iinc 3 1, 3) := by decide +kernel
theorem dX12_valueOf_60 : decode cX12_valueOf 60 = .ok (.goto (-56), 3) := by decide +kernel
theorem dX12_valueOf_63 : decode cX12_valueOf 63 = .ok (.iload_n 2, 1) := by decide +kernel
theorem dX12_valueOf_64 : decode cX12_valueOf 64 = .ok (.iconst (-1), 1) := by decide +kernel
theorem dX12_valueOf_65 : decode cX12_valueOf 65 = .ok (.if_icmp .ne 7, 3) := by decide +kernel
theorem dX12_valueOf_68 : decode cX12_valueOf 68 = .ok (.iconst (-1), 1) := by decide +kernel
theorem dX12_valueOf_69 : decode cX12_valueOf 69 = .ok (.goto 9, 3) := by decide +kernel
theorem dX12_valueOf_72 : decode cX12_valueOf 72 = .ok (.aload_n 0, 1) := by decide +kernel
theorem dX12_valueOf_73 : decode cX12_valueOf 73 = .ok (.getfield 37, 3) := by decide +kernel
theorem dX12_valueOf_76 : decode cX12_valueOf 76 = .ok (.iload_n 2, 1) := by decide +kernel
theorem dX12_valueOf_77 : decode cX12_valueOf 77 = .ok (.iaload, 1) := by decide +kernel
theorem dX12_valueOf_78 : decode cX12_valueOf 78 = .ok (.ireturn, 1) := by decide +kernel
theorem dX12_about_0 : decode cX12_about 0 = .ok (.aload_n 0, 1) := by decide +kernel
theorem dX12_about_1 : decode cX12_about 1 = .ok (.iload_n 1, 1) := by decide +kernel
theorem dX12_about_2 : decode cX12_about 2 = .ok (.invokevirtual 131, 3) := by decide +kernel
theorem dX12_about_5 : decode cX12_about 5 = .ok (.ifCond .ne 6, 3) := by decide +kernel
theorem dX12_about_8 : decode cX12_about 8 = .ok (.bipush (-2), 2) := by decide +kernel
theorem dX12_about_10 : decode cX12_about 10 = .ok (.ireturn, 1) := by decide +kernel
theorem dX12_about_11 : decode cX12_about 11 = .ok (.iload_n 2, 1) := by decide +kernel
theorem dX12_about_12 : decode cX12_about 12 = .ok (.tableswitch 70 0 4 #[36, 43, 50, 57, 64], 36) := by decide +kernel
theorem dX12_about_48 : decode cX12_about 48 = .ok (.aload_n 0, 1) := by decide +kernel
theorem dX12_about_49 : decode cX12_about 49 = .ok (.getfield 22, 3) := by decide +kernel
theorem dX12_about_52 : decode cX12_about 52 = .ok (.iload_n 1, 1) := by decide +kernel
theorem dX12_about_53 : decode cX12_about 53 = .ok (.iaload, 1) := by decide +kernel
theorem dX12_about_54 : decode cX12_about 54 = .ok (.ireturn, 1) := by decide +kernel
theorem dX12_about_55 : decode cX12_about 55 = .ok (.aload_n 0, 1) := by decide +kernel
theorem dX12_about_56 : decode cX12_about 56 = .ok (.getfield 25, 3) := by decide +kernel
theorem dX12_about_59 : decode cX12_about 59 = .ok (.iload_n 1, 1) := by decide +kernel
theorem dX12_about_60 : decode cX12_about 60 = .ok (.iaload, 1) := by decide +kernel
theorem dX12_about_61 : decode cX12_about 61 = .ok (.ireturn, 1) := by decide +kernel
theorem dX12_about_62 : decode cX12_about 62 = .ok (.aload_n 0, 1) := by decide +kernel
theorem dX12_about_63 : decode cX12_about 63 = .ok (.getfield 28, 3) := by decide +kernel
theorem dX12_about_66 : decode cX12_about 66 = .ok (.iload_n 1, 1) := by decide +kernel
theorem dX12_about_67 : decode cX12_about 67 = .ok (.iaload, 1) := by decide +kernel
theorem dX12_about_68 : decode cX12_about 68 = .ok (.ireturn, 1) := by decide +kernel
theorem dX12_about_69 : decode cX12_about 69 = .ok (.aload_n 0, 1) := by decide +kernel
theorem dX12_about_70 : decode cX12_about 70 = .ok (.getfield 31, 3) := by decide +kernel
theorem dX12_about_73 : decode cX12_about 73 = .ok (.iload_n 1, 1) := by decide +kernel
theorem dX12_about_74 : decode cX12_about 74 = .ok (.iaload, 1) := by decide +kernel
theorem dX12_about_75 : decode cX12_about 75 = .ok (.ireturn, 1) := by decide +kernel
theorem dX12_about_76 : decode cX12_about 76 = .ok (.aload_n 0, 1) := by decide +kernel
theorem dX12_about_77 : decode cX12_about 77 = .ok (.iload_n 1, 1) := by decide +kernel
theorem dX12_about_78 : decode cX12_about 78 = .ok (.invokevirtual 134, 3) := by decide +kernel
theorem dX12_about_81 : decode cX12_about 81 = .ok (.ireturn, 1) := by decide +kernel
theorem dX12_about_82 : decode cX12_about 82 = .ok (.bipush (-2), 2) := by decide +kernel
theorem dX12_about_84 : decode cX12_about 84 = .ok (.ireturn, 1) := by decide +kernel
theorem dX12_answer_0 : decode cX12_answer 0 = .ok (.aload_n 0, 1) := by decide +kernel
theorem dX12_answer_1 : decode cX12_answer 1 = .ok (.iload_n 1, 1) := by decide +kernel
theorem dX12_answer_2 : decode cX12_answer 2 = .ok (.invokevirtual 131, 3) := by decide +kernel
theorem dX12_answer_5 : decode cX12_answer 5 = .ok (.ifCond .eq 24, 3) := by decide +kernel
theorem dX12_answer_8 : decode cX12_answer 8 = .ok (.iload_n 2, 1) := by decide +kernel
theorem dX12_answer_9 : decode cX12_answer 9 = .ok (.i2l, 1) := by decide +kernel
theorem dX12_answer_10 : decode cX12_answer 10 = .ok (.ldc2_w 137, 3) := by decide +kernel
theorem dX12_answer_13 : decode cX12_answer 13 = .ok (.ldc2_w 139, 3) := by decide +kernel
theorem dX12_answer_16 : decode cX12_answer 16 = .ok (.invokestatic 92, 3) := by decide +kernel
theorem dX12_answer_19 : decode cX12_answer 19 = .ok (.ifCond .eq 10, 3) := by decide +kernel
theorem dX12_answer_22 : decode cX12_answer 22 = .ok (.iload_n 3, 1) := by decide +kernel
theorem dX12_answer_23 : decode cX12_answer 23 = .ok (.invokestatic 141, 3) := by decide +kernel
theorem dX12_answer_26 : decode cX12_answer 26 = .ok (.ifCond .ne 6, 3) := by decide +kernel
theorem dX12_answer_29 : decode cX12_answer 29 = .ok (.bipush (-2), 2) := by decide +kernel
theorem dX12_answer_31 : decode cX12_answer 31 = .ok (.ireturn, 1) := by decide +kernel
theorem dX12_answer_32 : decode cX12_answer 32 = .ok (.aload_n 0, 1) := by decide +kernel
theorem dX12_answer_33 : decode cX12_answer 33 = .ok (.getfield 128, 3) := by decide +kernel
theorem dX12_answer_36 : decode cX12_answer 36 = .ok (.bipush 120, 2) := by decide +kernel
theorem dX12_answer_38 : decode cX12_answer 38 = .ok (.if_icmp .ne 6, 3) := by decide +kernel
theorem dX12_answer_41 : decode cX12_answer 41 = .ok (.bipush (-4), 2) := by decide +kernel
theorem dX12_answer_43 : decode cX12_answer 43 = .ok (.ireturn, 1) := by decide +kernel
theorem dX12_answer_44 : decode cX12_answer 44 = .ok (.aload_n 0, 1) := by decide +kernel
theorem dX12_answer_45 : decode cX12_answer 45 = .ok (.getfield 34, 3) := by decide +kernel
theorem dX12_answer_48 : decode cX12_answer 48 = .ok (.aload_n 0, 1) := by decide +kernel
theorem dX12_answer_49 : decode cX12_answer 49 = .ok (.getfield 128, 3) := by decide +kernel
theorem dX12_answer_52 : decode cX12_answer 52 = .ok (.iload_n 1, 1) := by decide +kernel
theorem dX12_answer_53 : decode cX12_answer 53 = .ok (.iastore, 1) := by decide +kernel
theorem dX12_answer_54 : decode cX12_answer 54 = .ok (.aload_n 0, 1) := by decide +kernel
theorem dX12_answer_55 : decode cX12_answer 55 = .ok (.getfield 37, 3) := by decide +kernel
theorem dX12_answer_58 : decode cX12_answer 58 = .ok (.aload_n 0, 1) := by decide +kernel
theorem dX12_answer_59 : decode cX12_answer 59 = .ok (.getfield 128, 3) := by decide +kernel
theorem dX12_answer_62 : decode cX12_answer 62 = .ok (.iload_n 2, 1) := by decide +kernel
theorem dX12_answer_63 : decode cX12_answer 63 = .ok (.iastore, 1) := by decide +kernel
theorem dX12_answer_64 : decode cX12_answer 64 = .ok (.aload_n 0, 1) := by decide +kernel
theorem dX12_answer_65 : decode cX12_answer 65 = .ok (.getfield 40, 3) := by decide +kernel
theorem dX12_answer_68 : decode cX12_answer 68 = .ok (.aload_n 0, 1) := by decide +kernel
theorem dX12_answer_69 : decode cX12_answer 69 = .ok (.getfield 128, 3) := by decide +kernel
theorem dX12_answer_72 : decode cX12_answer 72 = .ok (.iload_n 3, 1) := by decide +kernel
theorem dX12_answer_73 : decode cX12_answer 73 = .ok (.iastore, 1) := by decide +kernel
theorem dX12_answer_74 : decode cX12_answer 74 = .ok (.aload_n 0, 1) := by decide +kernel
theorem dX12_answer_75 : decode cX12_answer 75 = .ok (.dup, 1) := by decide +kernel
theorem dX12_answer_76 : decode cX12_answer 76 = .ok (.getfield 128, 3) := by decide +kernel
theorem dX12_answer_79 : decode cX12_answer 79 = .ok (.iconst 1, 1) := by decide +kernel
theorem dX12_answer_80 : decode cX12_answer 80 = .ok (.iadd, 1) := by decide +kernel
theorem dX12_answer_81 : decode cX12_answer 81 = .ok (.putfield 128, 3) := by decide +kernel
theorem dX12_answer_84 : decode cX12_answer 84 = .ok (.aload_n 0, 1) := by decide +kernel
theorem dX12_answer_85 : decode cX12_answer 85 = .ok (.getfield 128, 3) := by decide +kernel
theorem dX12_answer_88 : decode cX12_answer 88 = .ok (.ireturn, 1) := by decide +kernel
theorem dX12_asOf_0 : decode cX12_asOf 0 = .ok (.iload_n 1, 1) := by decide +kernel
theorem dX12_asOf_1 : decode cX12_asOf 1 = .ok (.invokestatic 141, 3) := by decide +kernel
theorem dX12_asOf_4 : decode cX12_asOf 4 = .ok (.ifCond .ne 6, 3) := by decide +kernel
theorem dX12_asOf_7 : decode cX12_asOf 7 = .ok (.bipush (-2), 2) := by decide +kernel
theorem dX12_asOf_9 : decode cX12_asOf 9 = .ok (.ireturn, 1) := by decide +kernel
theorem dX12_asOf_10 : decode cX12_asOf 10 = .ok (.aload_n 0, 1) := by decide +kernel
theorem dX12_asOf_11 : decode cX12_asOf 11 = .ok (.getfield 43, 3) := by decide +kernel
theorem dX12_asOf_14 : decode cX12_asOf 14 = .ok (.istore_n 2, 1) := by decide +kernel
theorem dX12_asOf_15 : decode cX12_asOf 15 = .ok (.aload_n 0, 1) := by decide +kernel
theorem dX12_asOf_16 : decode cX12_asOf 16 = .ok (.iload_n 1, 1) := by decide +kernel
theorem dX12_asOf_17 : decode cX12_asOf 17 = .ok (.putfield 43, 3) := by decide +kernel
theorem dX12_asOf_20 : decode cX12_asOf 20 = .ok (.iload_n 2, 1) := by decide +kernel
theorem dX12_asOf_21 : decode cX12_asOf 21 = .ok (.ireturn, 1) := by decide +kernel
theorem dX12_manyOf_0 : decode cX12_manyOf 0 = .ok (.iconst 0, 1) := by decide +kernel
theorem dX12_manyOf_1 : decode cX12_manyOf 1 = .ok (.istore_n 3, 1) := by decide +kernel
theorem dX12_manyOf_2 : decode cX12_manyOf 2 = .ok (.iconst 0, 1) := by decide +kernel
theorem dX12_manyOf_3 : decode cX12_manyOf 3 = .ok (.istore 4, 2) := by decide +kernel
theorem dX12_manyOf_5 : decode cX12_manyOf 5 = .ok (.iload 4, 2) := by decide +kernel
theorem dX12_manyOf_7 : decode cX12_manyOf 7 = .ok (.aload_n 0, 1) := by decide +kernel
theorem dX12_manyOf_8 : decode cX12_manyOf 8 = .ok (.getfield 115, 3) := by decide +kernel
theorem dX12_manyOf_11 : decode cX12_manyOf 11 = .ok (.if_icmp .ge 62, 3) := by decide +kernel
theorem dX12_manyOf_14 : decode cX12_manyOf 14 = .ok (.iload_n 3, 1) := by decide +kernel
theorem dX12_manyOf_15 : decode cX12_manyOf 15 = .ok (.iload_n 1, 1) := by decide +kernel
theorem dX12_manyOf_16 : decode cX12_manyOf 16 = .ok (.iconst 3, 1) := by decide +kernel
theorem dX12_manyOf_17 : decode cX12_manyOf 17 = .ok (.if_icmp .eq 43, 3) := by decide +kernel
theorem dX12_manyOf_20 : decode cX12_manyOf 20 = .ok (.iload_n 1, 1) := by decide +kernel
theorem dX12_manyOf_21 : decode cX12_manyOf 21 = .ok (.ifCond .ne 13, 3) := by decide +kernel
theorem dX12_manyOf_24 : decode cX12_manyOf 24 = .ok (.aload_n 0, 1) := by decide +kernel
theorem dX12_manyOf_25 : decode cX12_manyOf 25 = .ok (.getfield 22, 3) := by decide +kernel
theorem dX12_manyOf_28 : decode cX12_manyOf 28 = .ok (.iload 4, 2) := by decide +kernel
theorem dX12_manyOf_30 : decode cX12_manyOf 30 = .ok (.iaload, 1) := by decide +kernel
theorem dX12_manyOf_31 : decode cX12_manyOf 31 = .ok (.goto 25, 3) := by decide +kernel
theorem dX12_manyOf_34 : decode cX12_manyOf 34 = .ok (.iload_n 1, 1) := by decide +kernel
theorem dX12_manyOf_35 : decode cX12_manyOf 35 = .ok (.iconst 1, 1) := by decide +kernel
theorem dX12_manyOf_36 : decode cX12_manyOf 36 = .ok (.if_icmp .ne 13, 3) := by decide +kernel
theorem dX12_manyOf_39 : decode cX12_manyOf 39 = .ok (.aload_n 0, 1) := by decide +kernel
theorem dX12_manyOf_40 : decode cX12_manyOf 40 = .ok (.getfield 25, 3) := by decide +kernel
theorem dX12_manyOf_43 : decode cX12_manyOf 43 = .ok (.iload 4, 2) := by decide +kernel
theorem dX12_manyOf_45 : decode cX12_manyOf 45 = .ok (.iaload, 1) := by decide +kernel
theorem dX12_manyOf_46 : decode cX12_manyOf 46 = .ok (.goto 10, 3) := by decide +kernel
theorem dX12_manyOf_49 : decode cX12_manyOf 49 = .ok (.aload_n 0, 1) := by decide +kernel
theorem dX12_manyOf_50 : decode cX12_manyOf 50 = .ok (.getfield 31, 3) := by decide +kernel
theorem dX12_manyOf_53 : decode cX12_manyOf 53 = .ok (.iload 4, 2) := by decide +kernel
theorem dX12_manyOf_55 : decode cX12_manyOf 55 = .ok (.iaload, 1) := by decide +kernel
theorem dX12_manyOf_56 : decode cX12_manyOf 56 = .ok (.iload_n 2, 1) := by decide +kernel
theorem dX12_manyOf_57 : decode cX12_manyOf 57 = .ok (.if_icmp .ne 7, 3) := by decide +kernel
theorem dX12_manyOf_60 : decode cX12_manyOf 60 = .ok (.iconst 1, 1) := by decide +kernel
theorem dX12_manyOf_61 : decode cX12_manyOf 61 = .ok (.goto 4, 3) := by decide +kernel
theorem dX12_manyOf_64 : decode cX12_manyOf 64 = .ok (.iconst 0, 1) := by decide +kernel
theorem dX12_manyOf_65 : decode cX12_manyOf 65 = .ok (.iadd, 1) := by decide +kernel
theorem dX12_manyOf_66 : decode cX12_manyOf 66 = .ok (.istore_n 3, 1) := by decide +kernel
theorem dX12_manyOf_67 : decode cX12_manyOf 67 = .ok (.iinc 4 1, 3) := by decide +kernel
theorem dX12_manyOf_70 : decode cX12_manyOf 70 = .ok (.goto (-65), 3) := by decide +kernel
theorem dX12_manyOf_73 : decode cX12_manyOf 73 = .ok (.iload_n 3, 1) := by decide +kernel
theorem dX12_manyOf_74 : decode cX12_manyOf 74 = .ok (.ireturn, 1) := by decide +kernel
theorem dX12_many_0 : decode cX12_many 0 = .ok (.iload_n 1, 1) := by decide +kernel
theorem dX12_many_1 : decode cX12_many 1 = .ok (.ifCond .ne 15, 3) := by decide +kernel
theorem dX12_many_4 : decode cX12_many 4 = .ok (.iload_n 2, 1) := by decide +kernel
theorem dX12_many_5 : decode cX12_many 5 = .ok (.i2l, 1) := by decide +kernel
theorem dX12_many_6 : decode cX12_many 6 = .ok (.lconst 0, 1) := by decide +kernel
theorem dX12_many_7 : decode cX12_many 7 = .ok (.ldc2_w 90, 3) := by decide +kernel
theorem dX12_many_10 : decode cX12_many 10 = .ok (.invokestatic 92, 3) := by decide +kernel
theorem dX12_many_13 : decode cX12_many 13 = .ok (.goto 51, 3) := by decide +kernel
theorem dX12_many_16 : decode cX12_many 16 = .ok (.iload_n 1, 1) := by decide +kernel
theorem dX12_many_17 : decode cX12_many 17 = .ok (.iconst 1, 1) := by decide +kernel
theorem dX12_many_18 : decode cX12_many 18 = .ok (.if_icmp .ne 15, 3) := by decide +kernel
theorem dX12_many_21 : decode cX12_many 21 = .ok (.iload_n 2, 1) := by decide +kernel
theorem dX12_many_22 : decode cX12_many 22 = .ok (.i2l, 1) := by decide +kernel
theorem dX12_many_23 : decode cX12_many 23 = .ok (.lconst 0, 1) := by decide +kernel
theorem dX12_many_24 : decode cX12_many 24 = .ok (.ldc2_w 120, 3) := by decide +kernel
theorem dX12_many_27 : decode cX12_many 27 = .ok (.invokestatic 92, 3) := by decide +kernel
theorem dX12_many_30 : decode cX12_many 30 = .ok (.goto 34, 3) := by decide +kernel
theorem dX12_many_33 : decode cX12_many 33 = .ok (.iload_n 1, 1) := by decide +kernel
theorem dX12_many_34 : decode cX12_many 34 = .ok (.iconst 2, 1) := by decide +kernel
theorem dX12_many_35 : decode cX12_many 35 = .ok (.if_icmp .ne 15, 3) := by decide +kernel
theorem dX12_many_38 : decode cX12_many 38 = .ok (.iload_n 2, 1) := by decide +kernel
theorem dX12_many_39 : decode cX12_many 39 = .ok (.i2l, 1) := by decide +kernel
theorem dX12_many_40 : decode cX12_many 40 = .ok (.lconst 0, 1) := by decide +kernel
theorem dX12_many_41 : decode cX12_many 41 = .ok (.ldc2_w 100, 3) := by decide +kernel
theorem dX12_many_44 : decode cX12_many 44 = .ok (.invokestatic 92, 3) := by decide +kernel
theorem dX12_many_47 : decode cX12_many 47 = .ok (.goto 17, 3) := by decide +kernel
theorem dX12_many_50 : decode cX12_many 50 = .ok (.iload_n 1, 1) := by decide +kernel
theorem dX12_many_51 : decode cX12_many 51 = .ok (.iconst 3, 1) := by decide +kernel
theorem dX12_many_52 : decode cX12_many 52 = .ok (.if_icmp .ne 11, 3) := by decide +kernel
theorem dX12_many_55 : decode cX12_many 55 = .ok (.iload_n 2, 1) := by decide +kernel
theorem dX12_many_56 : decode cX12_many 56 = .ok (.ifCond .ne 7, 3) := by decide +kernel
theorem dX12_many_59 : decode cX12_many 59 = .ok (.iconst 1, 1) := by decide +kernel
theorem dX12_many_60 : decode cX12_many 60 = .ok (.goto 4, 3) := by decide +kernel
