theorem dX0_init_0 : decode cX0_init 0 = .ok (.aload_n 0, 1) := by decide +kernel
theorem dX0_init_1 : decode cX0_init 1 = .ok (.invokespecial 3, 3) := by decide +kernel
theorem dX0_init_4 : decode cX0_init 4 = .ok (.aload_n 0, 1) := by decide +kernel
theorem dX0_init_5 : decode cX0_init 5 = .ok (.bipush 120, 2) := by decide +kernel
theorem dX0_init_7 : decode cX0_init 7 = .ok (.newarray .int, 2) := by decide +kernel
theorem dX0_init_9 : decode cX0_init 9 = .ok (.putfield 9, 3) := by decide +kernel
theorem dX0_init_12 : decode cX0_init 12 = .ok (.aload_n 0, 1) := by decide +kernel
theorem dX0_init_13 : decode cX0_init 13 = .ok (.bipush 120, 2) := by decide +kernel
theorem dX0_init_15 : decode cX0_init 15 = .ok (.newarray .int, 2) := by decide +kernel
theorem dX0_init_17 : decode cX0_init 17 = .ok (.putfield 15, 3) := by decide +kernel
theorem dX0_init_20 : decode cX0_init 20 = .ok (.aload_n 0, 1) := by decide +kernel
theorem dX0_init_21 : decode cX0_init 21 = .ok (.bipush 120, 2) := by decide +kernel
theorem dX0_init_23 : decode cX0_init 23 = .ok (.newarray .int, 2) := by decide +kernel
theorem dX0_init_25 : decode cX0_init 25 = .ok (.putfield 18, 3) := by decide +kernel
theorem dX0_init_28 : decode cX0_init 28 = .ok (.aload_n 0, 1) := by decide +kernel
theorem dX0_init_29 : decode cX0_init 29 = .ok (.bipush 30, 2) := by decide +kernel
theorem dX0_init_31 : decode cX0_init 31 = .ok (.newarray .int, 2) := by decide +kernel
theorem dX0_init_33 : decode cX0_init 33 = .ok (.putfield 21, 3) := by decide +kernel
theorem dX0_init_36 : decode cX0_init 36 = .ok (.aload_n 0, 1) := by decide +kernel
theorem dX0_init_37 : decode cX0_init 37 = .ok (.sipush 399, 3) := by decide +kernel
theorem dX0_init_40 : decode cX0_init 40 = .ok (.putfield 24, 3) := by decide +kernel
theorem dX0_init_43 : decode cX0_init 43 = .ok (.aload_n 0, 1) := by decide +kernel
theorem dX0_init_44 : decode cX0_init 44 = .ok (.aload_n 1, 1) := by decide +kernel
theorem dX0_init_45 : decode cX0_init 45 = .ok (.putfield 28, 3) := by decide +kernel
theorem dX0_init_48 : decode cX0_init 48 = .ok (.return_, 1) := by decide +kernel
theorem dX0_tell_0 : decode cX0_tell 0 = .ok (.aload_n 0, 1) := by decide +kernel
theorem dX0_tell_1 : decode cX0_tell 1 = .ok (.getfield 32, 3) := by decide +kernel
theorem dX0_tell_4 : decode cX0_tell 4 = .ok (.bipush 120, 2) := by decide +kernel
theorem dX0_tell_6 : decode cX0_tell 6 = .ok (.if_icmp .lt 6, 3) := by decide +kernel
theorem dX0_tell_9 : decode cX0_tell 9 = .ok (.bipush (-4), 2) := by decide +kernel
theorem dX0_tell_11 : decode cX0_tell 11 = .ok (.ireturn, 1) := by decide +kernel
theorem dX0_tell_12 : decode cX0_tell 12 = .ok (.aload_n 0, 1) := by decide +kernel
theorem dX0_tell_13 : decode cX0_tell 13 = .ok (.getfield 9, 3) := by decide +kernel
theorem dX0_tell_16 : decode cX0_tell 16 = .ok (.aload_n 0, 1) := by decide +kernel
theorem dX0_tell_17 : decode cX0_tell 17 = .ok (.getfield 32, 3) := by decide +kernel
theorem dX0_tell_20 : decode cX0_tell 20 = .ok (.iload_n 1, 1) := by decide +kernel
theorem dX0_tell_21 : decode cX0_tell 21 = .ok (.iastore, 1) := by decide +kernel
theorem dX0_tell_22 : decode cX0_tell 22 = .ok (.aload_n 0, 1) := by decide +kernel
theorem dX0_tell_23 : decode cX0_tell 23 = .ok (.getfield 15, 3) := by decide +kernel
theorem dX0_tell_26 : decode cX0_tell 26 = .ok (.aload_n 0, 1) := by decide +kernel
theorem dX0_tell_27 : decode cX0_tell 27 = .ok (.getfield 32, 3) := by decide +kernel
theorem dX0_tell_30 : decode cX0_tell 30 = .ok (.iload_n 2, 1) := by decide +kernel
theorem dX0_tell_31 : decode cX0_tell 31 = .ok (.iastore, 1) := by decide +kernel
theorem dX0_tell_32 : decode cX0_tell 32 = .ok (.aload_n 0, 1) := by decide +kernel
theorem dX0_tell_33 : decode cX0_tell 33 = .ok (.getfield 18, 3) := by decide +kernel
theorem dX0_tell_36 : decode cX0_tell 36 = .ok (.aload_n 0, 1) := by decide +kernel
theorem dX0_tell_37 : decode cX0_tell 37 = .ok (.getfield 32, 3) := by decide +kernel
theorem dX0_tell_40 : decode cX0_tell 40 = .ok (.iload_n 3, 1) := by decide +kernel
theorem dX0_tell_41 : decode cX0_tell 41 = .ok (.iastore, 1) := by decide +kernel
theorem dX0_tell_42 : decode cX0_tell 42 = .ok (.aload_n 0, 1) := by decide +kernel
theorem dX0_tell_43 : decode cX0_tell 43 = .ok (.dup, 1) := by decide +kernel
theorem dX0_tell_44 : decode cX0_tell 44 = .ok (.getfield 32, 3) := by decide +kernel
theorem dX0_tell_47 : decode cX0_tell 47 = .ok (.iconst 1, 1) := by decide +kernel
theorem dX0_tell_48 : decode cX0_tell 48 = .ok (.iadd, 1) := by decide +kernel
theorem dX0_tell_49 : decode cX0_tell 49 = .ok (.putfield 32, 3) := by decide +kernel
theorem dX0_tell_52 : decode cX0_tell 52 = .ok (.aload_n 0, 1) := by decide +kernel
theorem dX0_tell_53 : decode cX0_tell 53 = .ok (.invokevirtual 35, 3) := by decide +kernel
theorem dX0_tell_56 : decode cX0_tell 56 = .ok (.aload_n 0, 1) := by decide +kernel
theorem dX0_tell_57 : decode cX0_tell 57 = .ok (.getfield 32, 3) := by decide +kernel
theorem dX0_tell_60 : decode cX0_tell 60 = .ok (.ireturn, 1) := by decide +kernel
theorem dX0_look_0 : decode cX0_look 0 = .ok (.aload_n 0, 1) := by decide +kernel
theorem dX0_look_1 : decode cX0_look 1 = .ok (.getfield 24, 3) := by decide +kernel
theorem dX0_look_4 : decode cX0_look 4 = .ok (.istore_n 2, 1) := by decide +kernel
theorem dX0_look_5 : decode cX0_look 5 = .ok (.aload_n 0, 1) := by decide +kernel
theorem dX0_look_6 : decode cX0_look 6 = .ok (.iload_n 1, 1) := by decide +kernel
theorem dX0_look_7 : decode cX0_look 7 = .ok (.putfield 24, 3) := by decide +kernel
theorem dX0_look_10 : decode cX0_look 10 = .ok (.aload_n 0, 1) := by decide +kernel
theorem dX0_look_11 : decode cX0_look 11 = .ok (.invokevirtual 35, 3) := by decide +kernel
theorem dX0_look_14 : decode cX0_look 14 = .ok (.iload_n 2, 1) := by decide +kernel
theorem dX0_look_15 : decode cX0_look 15 = .ok (.ireturn, 1) := by decide +kernel
theorem dX0_settle_0 : decode cX0_settle 0 = .ok (.aload_n 0, 1) := by decide +kernel
theorem dX0_settle_1 : decode cX0_settle 1 = .ok (.getfield 28, 3) := by decide +kernel
theorem dX0_settle_4 : decode cX0_settle 4 = .ok (.invokevirtual 38, 3) := by decide +kernel
theorem dX0_settle_7 : decode cX0_settle 7 = .ok (.iconst 0, 1) := by decide +kernel
theorem dX0_settle_8 : decode cX0_settle 8 = .ok (.istore_n 1, 1) := by decide +kernel
theorem dX0_settle_9 : decode cX0_settle 9 = .ok (.iload_n 1, 1) := by decide +kernel
theorem dX0_settle_10 : decode cX0_settle 10 = .ok (.bipush 30, 2) := by decide +kernel
theorem dX0_settle_12 : decode cX0_settle 12 = .ok (.if_icmp .ge 16, 3) := by decide +kernel
theorem dX0_settle_15 : decode cX0_settle 15 = .ok (.aload_n 0, 1) := by decide +kernel
theorem dX0_settle_16 : decode cX0_settle 16 = .ok (.getfield 21, 3) := by decide +kernel
theorem dX0_settle_19 : decode cX0_settle 19 = .ok (.iload_n 1, 1) := by decide +kernel
theorem dX0_settle_20 : decode cX0_settle 20 = .ok (.iconst 0, 1) := by decide +kernel
theorem dX0_settle_21 : decode cX0_settle 21 = .ok (.iastore, 1) := by decide +kernel
theorem dX0_settle_22 : decode cX0_settle 22 = .ok (.iinc 1 1, 3) := by decide +kernel
theorem dX0_settle_25 : decode cX0_settle 25 = .ok (.goto (-16), 3) := by decide +kernel
theorem dX0_settle_28 : decode cX0_settle 28 = .ok (.iconst 0, 1) := by decide +kernel
theorem dX0_settle_29 : decode cX0_settle 29 = .ok (.istore_n 1, 1) := by decide +kernel
theorem dX0_settle_30 : decode cX0_settle 30 = .ok (.iload_n 1, 1) := by decide +kernel
theorem dX0_settle_31 : decode cX0_settle 31 = .ok (.aload_n 0, 1) := by decide +kernel
theorem dX0_settle_32 : decode cX0_settle 32 = .ok (.getfield 32, 3) := by decide +kernel
theorem dX0_settle_35 : decode cX0_settle 35 = .ok (.if_icmp .ge 70, 3) := by decide +kernel
theorem dX0_settle_38 : decode cX0_settle 38 = .ok (.aload_n 0, 1) := by decide +kernel
theorem dX0_settle_39 : decode cX0_settle 39 = .ok (.getfield 9, 3) := by decide +kernel
theorem dX0_settle_42 : decode cX0_settle 42 = .ok (.iload_n 1, 1) := by decide +kernel
theorem dX0_settle_43 : decode cX0_settle 43 = .ok (.iaload, 1) := by decide +kernel
theorem dX0_settle_44 : decode cX0_settle 44 = .ok (.istore_n 2, 1) := by decide +kernel
theorem dX0_settle_45 : decode cX0_settle 45 = .ok (.aload_n 0, 1) := by decide +kernel
theorem dX0_settle_46 : decode cX0_settle 46 = .ok (.getfield 18, 3) := by decide +kernel
theorem dX0_settle_49 : decode cX0_settle 49 = .ok (.iload_n 1, 1) := by decide +kernel
theorem dX0_settle_50 : decode cX0_settle 50 = .ok (.iaload, 1) := by decide +kernel
theorem dX0_settle_51 : decode cX0_settle 51 = .ok (.aload_n 0, 1) := by decide +kernel
theorem dX0_settle_52 : decode cX0_settle 52 = .ok (.getfield 24, 3) := by decide +kernel
theorem dX0_settle_55 : decode cX0_settle 55 = .ok (.if_icmp .gt 44, 3) := by decide +kernel
theorem dX0_settle_58 : decode cX0_settle 58 = .ok (.aload_n 0, 1) := by decide +kernel
theorem dX0_settle_59 : decode cX0_settle 59 = .ok (.getfield 18, 3) := by decide +kernel
theorem dX0_settle_62 : decode cX0_settle 62 = .ok (.iload_n 1, 1) := by decide +kernel
theorem dX0_settle_63 : decode cX0_settle 63 = .ok (.iaload, 1) := by decide +kernel
theorem dX0_settle_64 : decode cX0_settle 64 = .ok (.aload_n 0, 1) := by decide +kernel
theorem dX0_settle_65 : decode cX0_settle 65 = .ok (.getfield 21, 3) := by decide +kernel
theorem dX0_settle_68 : decode cX0_settle 68 = .ok (.iload_n 2, 1) := by decide +kernel
theorem dX0_settle_69 : decode cX0_settle 69 = .ok (.iaload, 1) := by decide +kernel
theorem dX0_settle_70 : decode cX0_settle 70 = .ok (.if_icmp .lt 29, 3) := by decide +kernel
theorem dX0_settle_73 : decode cX0_settle 73 = .ok (.aload_n 0, 1) := by decide +kernel
theorem dX0_settle_74 : decode cX0_settle 74 = .ok (.getfield 21, 3) := by decide +kernel
theorem dX0_settle_77 : decode cX0_settle 77 = .ok (.iload_n 2, 1) := by decide +kernel
theorem dX0_settle_78 : decode cX0_settle 78 = .ok (.aload_n 0, 1) := by decide +kernel
theorem dX0_settle_79 : decode cX0_settle 79 = .ok (.getfield 18, 3) := by decide +kernel
theorem dX0_settle_82 : decode cX0_settle 82 = .ok (.iload_n 1, 1) := by decide +kernel
theorem dX0_settle_83 : decode cX0_settle 83 = .ok (.iaload, 1) := by decide +kernel
theorem dX0_settle_84 : decode cX0_settle 84 = .ok (.iastore, 1) := by decide +kernel
theorem dX0_settle_85 : decode cX0_settle 85 = .ok (.aload_n 0, 1) := by decide +kernel
theorem dX0_settle_86 : decode cX0_settle 86 = .ok (.getfield 28, 3) := by decide +kernel
theorem dX0_settle_89 : decode cX0_settle 89 = .ok (.iload_n 2, 1) := by decide +kernel
theorem dX0_settle_90 : decode cX0_settle 90 = .ok (.aload_n 0, 1) := by decide +kernel
theorem dX0_settle_91 : decode cX0_settle 91 = .ok (.getfield 15, 3) := by decide +kernel
theorem dX0_settle_94 : decode cX0_settle 94 = .ok (.iload_n 1, 1) := by decide +kernel
theorem dX0_settle_95 : decode cX0_settle 95 = .ok (.iaload, 1) := by decide +kernel
theorem dX0_settle_96 : decode cX0_settle 96 = .ok (.invokevirtual 43, 3) := by decide +kernel
theorem dX0_settle_99 : decode cX0_settle 99 = .ok (.iinc 1 1, 3) := by decide +kernel
theorem dX0_settle_102 : decode cX0_settle 102 = .ok (.goto (-72), 3) := by decide +kernel
theorem dX0_settle_105 : decode cX0_settle 105 = .ok (.return_, 1) := by decide +kernel
theorem dX1_init_0 : decode cX1_init 0 = .ok (.aload_n 0, 1) := by decide +kernel
theorem dX1_init_1 : decode cX1_init 1 = .ok (.invokespecial 1, 3) := by decide +kernel
theorem dX1_init_4 : decode cX1_init 4 = .ok (.aload_n 0, 1) := by decide +kernel
theorem dX1_init_5 : decode cX1_init 5 = .ok (.lconst 0, 1) := by decide +kernel
theorem dX1_init_6 : decode cX1_init 6 = .ok (.putfield 7, 3) := by decide +kernel
theorem dX1_init_9 : decode cX1_init 9 = .ok (.aload_n 0, 1) := by decide +kernel
theorem dX1_init_10 : decode cX1_init 10 = .ok (.lconst 1, 1) := by decide +kernel
theorem dX1_init_11 : decode cX1_init 11 = .ok (.putfield 13, 3) := by decide +kernel
theorem dX1_init_14 : decode cX1_init 14 = .ok (.return_, 1) := by decide +kernel
theorem dX1_become_0 : decode cX1_become 0 = .ok (.lload_n 1, 1) := by decide +kernel
theorem dX1_become_1 : decode cX1_become 1 = .ok (.lconst 0, 1) := by decide +kernel
theorem dX1_become_2 : decode cX1_become 2 = .ok (.lcmp, 1) := by decide +kernel
theorem dX1_become_3 : decode cX1_become 3 = .ok (.ifCond .le 9, 3) := by decide +kernel
theorem dX1_become_6 : decode cX1_become 6 = .ok (.lload_n 3, 1) := by decide +kernel
theorem dX1_become_7 : decode cX1_become 7 = .ok (.lconst 0, 1) := by decide +kernel
theorem dX1_become_8 : decode cX1_become 8 = .ok (.lcmp, 1) := by decide +kernel
theorem dX1_become_9 : decode cX1_become 9 = .ok (.ifCond .gt 14, 3) := by decide +kernel
theorem dX1_become_12 : decode cX1_become 12 = .ok (.aload_n 0, 1) := by decide +kernel
theorem dX1_become_13 : decode cX1_become 13 = .ok (.lconst 0, 1) := by decide +kernel
theorem dX1_become_14 : decode cX1_become 14 = .ok (.putfield 7, 3) := by decide +kernel
theorem dX1_become_17 : decode cX1_become 17 = .ok (.aload_n 0, 1) := by decide +kernel
theorem dX1_become_18 : decode cX1_become 18 = .ok (.lconst 1, 1) := by decide +kernel
theorem dX1_become_19 : decode cX1_become 19 = .ok (.putfield 13, 3) := by decide +kernel
theorem dX1_become_22 : decode cX1_become 22 = .ok (.return_, 1) := by decide +kernel
theorem dX1_become_23 : decode cX1_become 23 = .ok (.lload_n 1, 1) := by decide +kernel
theorem dX1_become_24 : decode cX1_become 24 = .ok (.lload_n 3, 1) := by decide +kernel
theorem dX1_become_25 : decode cX1_become 25 = .ok (.invokestatic 16, 3) := by decide +kernel
theorem dX1_become_28 : decode cX1_become 28 = .ok (.lstore 5, 2) := by decide +kernel
theorem dX1_become_30 : decode cX1_become 30 = .ok (.aload_n 0, 1) := by decide +kernel
theorem dX1_become_31 : decode cX1_become 31 = .ok (.lload_n 1, 1) := by decide +kernel
theorem dX1_become_32 : decode cX1_become 32 = .ok (.lload 5, 2) := by decide +kernel
theorem dX1_become_34 : decode cX1_become 34 = .ok (.ldiv, 1) := by decide +kernel
theorem dX1_become_35 : decode cX1_become 35 = .ok (.putfield 7, 3) := by decide +kernel
theorem dX1_become_38 : decode cX1_become 38 = .ok (.aload_n 0, 1) := by decide +kernel
theorem dX1_become_39 : decode cX1_become 39 = .ok (.lload_n 3, 1) := by decide +kernel
theorem dX1_become_40 : decode cX1_become 40 = .ok (.lload 5, 2) := by decide +kernel
theorem dX1_become_42 : decode cX1_become 42 = .ok (.ldiv, 1) := by decide +kernel
theorem dX1_become_43 : decode cX1_become 43 = .ok (.putfield 13, 3) := by decide +kernel
theorem dX1_become_46 : decode cX1_become 46 = .ok (.return_, 1) := by decide +kernel
theorem dX1_add_0 : decode cX1_add 0 = .ok (.lload_n 1, 1) := by decide +kernel
theorem dX1_add_1 : decode cX1_add 1 = .ok (.lconst 0, 1) := by decide +kernel
theorem dX1_add_2 : decode cX1_add 2 = .ok (.lcmp, 1) := by decide +kernel
theorem dX1_add_3 : decode cX1_add 3 = .ok (.ifCond .le 9, 3) := by decide +kernel
theorem dX1_add_6 : decode cX1_add 6 = .ok (.lload_n 3, 1) := by decide +kernel
theorem dX1_add_7 : decode cX1_add 7 = .ok (.lconst 0, 1) := by decide +kernel
theorem dX1_add_8 : decode cX1_add 8 = .ok (.lcmp, 1) := by decide +kernel
theorem dX1_add_9 : decode cX1_add 9 = .ok (.ifCond .gt 4, 3) := by decide +kernel
theorem dX1_add_12 : decode cX1_add 12 = .ok (.return_, 1) := by decide +kernel
theorem dX1_add_13 : decode cX1_add 13 = .ok (.aload_n 0, 1) := by decide +kernel
theorem dX1_add_14 : decode cX1_add 14 = .ok (.getfield 13, 3) := by decide +kernel
theorem dX1_add_17 : decode cX1_add 17 = .ok (.lload_n 3, 1) := by decide +kernel
theorem dX1_add_18 : decode cX1_add 18 = .ok (.invokestatic 16, 3) := by decide +kernel
theorem dX1_add_21 : decode cX1_add 21 = .ok (.lstore 5, 2) := by decide +kernel
theorem dX1_add_23 : decode cX1_add 23 = .ok (.lload_n 3, 1) := by decide +kernel
theorem dX1_add_24 : decode cX1_add 24 = .ok (.lload 5, 2) := by decide +kernel
theorem dX1_add_26 : decode cX1_add 26 = .ok (.ldiv, 1) := by decide +kernel
theorem dX1_add_27 : decode cX1_add 27 = .ok (.lstore 7, 2) := by decide +kernel
theorem dX1_add_29 : decode cX1_add 29 = .ok (.aload_n 0, 1) := by decide +kernel
theorem dX1_add_30 : decode cX1_add 30 = .ok (.aload_n 0, 1) := by decide +kernel
theorem dX1_add_31 : decode cX1_add 31 = .ok (.getfield 7, 3) := by decide +kernel
theorem dX1_add_34 : decode cX1_add 34 = .ok (.lload 7, 2) := by decide +kernel
theorem dX1_add_36 : decode cX1_add 36 = .ok (.lmul, 1) := by decide +kernel
theorem dX1_add_37 : decode cX1_add 37 = .ok (.lload_n 1, 1) := by decide +kernel
theorem dX1_add_38 : decode cX1_add 38 = .ok (.aload_n 0, 1) := by decide +kernel
theorem dX1_add_39 : decode cX1_add 39 = .ok (.getfield 13, 3) := by decide +kernel
theorem dX1_add_42 : decode cX1_add 42 = .ok (.lload 5, 2) := by decide +kernel
theorem dX1_add_44 : decode cX1_add 44 = .ok (.ldiv, 1) := by decide +kernel
theorem dX1_add_45 : decode cX1_add 45 = .ok (.lmul, 1) := by decide +kernel
theorem dX1_add_46 : decode cX1_add 46 = .ok (.ladd, 1) := by decide +kernel
theorem dX1_add_47 : decode cX1_add 47 = .ok (.aload_n 0, 1) := by decide +kernel
theorem dX1_add_48 : decode cX1_add 48 = .ok (.getfield 13, 3) := by decide +kernel
theorem dX1_add_51 : decode cX1_add 51 = .ok (.lload 7, 2) := by decide +kernel
theorem dX1_add_53 : decode cX1_add 53 = .ok (.lmul, 1) := by decide +kernel
theorem dX1_add_54 : decode cX1_add 54 = .ok (.invokevirtual 20, 3) := by decide +kernel
theorem dX1_add_57 : decode cX1_add 57 = .ok (.return_, 1) := by decide +kernel
theorem dX1_compareWith_0 : decode cX1_compareWith 0 = .ok (.aload_n 0, 1) := by decide +kernel
theorem dX1_compareWith_1 : decode cX1_compareWith 1 = .ok (.invokevirtual 24, 3) := by decide +kernel
theorem dX1_compareWith_4 : decode cX1_compareWith 4 = .ok (.aload_n 1, 1) := by decide +kernel
theorem dX1_compareWith_5 : decode cX1_compareWith 5 = .ok (.invokevirtual 24, 3) := by decide +kernel
theorem dX1_compareWith_8 : decode cX1_compareWith 8 = .ok (.invokestatic 28, 3) := by decide +kernel
theorem dX1_compareWith_11 : decode cX1_compareWith 11 = .ok (.istore_n 2, 1) := by decide +kernel
theorem dX1_compareWith_12 : decode cX1_compareWith 12 = .ok (.iload_n 2, 1) := by decide +kernel
theorem dX1_compareWith_13 : decode cX1_compareWith 13 = .ok (.ifCond .ne 21, 3) := by decide +kernel
theorem dX1_compareWith_16 : decode cX1_compareWith 16 = .ok (.aload_n 0, 1) := by decide +kernel
theorem dX1_compareWith_17 : decode cX1_compareWith 17 = .ok (.getfield 13, 3) := by decide +kernel
theorem dX1_compareWith_20 : decode cX1_compareWith 20 = .ok (.lconst 0, 1) := by decide +kernel
theorem dX1_compareWith_21 : decode cX1_compareWith 21 = .ok (.lcmp, 1) := by decide +kernel
theorem dX1_compareWith_22 : decode cX1_compareWith 22 = .ok (.ifCond .le 12, 3) := by decide +kernel
theorem dX1_compareWith_25 : decode cX1_compareWith 25 = .ok (.aload_n 1, 1) := by decide +kernel
theorem dX1_compareWith_26 : decode cX1_compareWith 26 = .ok (.getfield 13, 3) := by decide +kernel
theorem dX1_compareWith_29 : decode cX1_compareWith 29 = .ok (.lconst 0, 1) := by decide +kernel
theorem dX1_compareWith_30 : decode cX1_compareWith 30 = .ok (.lcmp, 1) := by decide +kernel
theorem dX1_compareWith_31 : decode cX1_compareWith 31 = .ok (.ifCond .gt 5, 3) := by decide +kernel
theorem dX1_compareWith_34 : decode cX1_compareWith 34 = .ok (.iload_n 2, 1) := by decide +kernel
theorem dX1_compareWith_35 : decode cX1_compareWith 35 = .ok (.ireturn, 1) := by decide +kernel
theorem dX1_compareWith_36 : decode cX1_compareWith 36 = .ok (.aload_n 0, 1) := by decide +kernel
theorem dX1_compareWith_37 : decode cX1_compareWith 37 = .ok (.getfield 7, 3) := by decide +kernel
theorem dX1_compareWith_40 : decode cX1_compareWith 40 = .ok (.aload_n 0, 1) := by decide +kernel
theorem dX1_compareWith_41 : decode cX1_compareWith 41 = .ok (.getfield 13, 3) := by decide +kernel
theorem dX1_compareWith_44 : decode cX1_compareWith 44 = .ok (.lrem, 1) := by decide +kernel
theorem dX1_compareWith_45 : decode cX1_compareWith 45 = .ok (.aload_n 1, 1) := by decide +kernel
theorem dX1_compareWith_46 : decode cX1_compareWith 46 = .ok (.getfield 13, 3) := by decide +kernel
theorem dX1_compareWith_49 : decode cX1_compareWith 49 = .ok (.lmul, 1) := by decide +kernel
theorem dX1_compareWith_50 : decode cX1_compareWith 50 = .ok (.aload_n 1, 1) := by decide +kernel
theorem dX1_compareWith_51 : decode cX1_compareWith 51 = .ok (.getfield 7, 3) := by decide +kernel
theorem dX1_compareWith_54 : decode cX1_compareWith 54 = .ok (.aload_n 1, 1) := by decide +kernel
theorem dX1_compareWith_55 : decode cX1_compareWith 55 = .ok (.getfield 13, 3) := by decide +kernel
theorem dX1_compareWith_58 : decode cX1_compareWith 58 = .ok (.lrem, 1) := by decide +kernel
theorem dX1_compareWith_59 : decode cX1_compareWith 59 = .ok (.aload_n 0, 1) := by decide +kernel
theorem dX1_compareWith_60 : decode cX1_compareWith 60 = .ok (.getfield 13, 3) := by decide +kernel
theorem dX1_compareWith_63 : decode cX1_compareWith 63 = .ok (.lmul, 1) := by decide +kernel
theorem dX1_compareWith_64 : decode cX1_compareWith 64 = .ok (.invokestatic 28, 3) := by decide +kernel
theorem dX1_compareWith_67 : decode cX1_compareWith 67 = .ok (.ireturn, 1) := by decide +kernel
theorem dX1_roundedDown_0 : decode cX1_roundedDown 0 = .ok (.aload_n 0, 1) := by decide +kernel
theorem dX1_roundedDown_1 : decode cX1_roundedDown 1 = .ok (.getfield 13, 3) := by decide +kernel
theorem dX1_roundedDown_4 : decode cX1_roundedDown 4 = .ok (.lconst 0, 1) := by decide +kernel
theorem dX1_roundedDown_5 : decode cX1_roundedDown 5 = .ok (.lcmp, 1) := by decide +kernel
theorem dX1_roundedDown_6 : decode cX1_roundedDown 6 = .ok (.ifCond .gt 7, 3) := by decide +kernel
theorem dX1_roundedDown_9 : decode cX1_roundedDown 9 = .ok (.lconst 0, 1) := by decide +kernel
theorem dX1_roundedDown_10 : decode cX1_roundedDown 10 = .ok (.goto 12, 3) := by decide +kernel
theorem dX1_roundedDown_13 : decode cX1_roundedDown 13 = .ok (.aload_n 0, 1) := by decide +kernel
theorem dX1_roundedDown_14 : decode cX1_roundedDown 14 = .ok (.getfield 7, 3) := by decide +kernel
theorem dX1_roundedDown_17 : decode cX1_roundedDown 17 = .ok (.aload_n 0, 1) := by decide +kernel
theorem dX1_roundedDown_18 : decode cX1_roundedDown 18 = .ok (.getfield 13, 3) := by decide +kernel
theorem dX1_roundedDown_21 : decode cX1_roundedDown 21 = .ok (.ldiv, 1) := by decide +kernel
theorem dX1_roundedDown_22 : decode cX1_roundedDown 22 = .ok (.lreturn, 1) := by decide +kernel
theorem dX1_thousandBy_0 : decode cX1_thousandBy 0 = .ok (.aload_n 0, 1) := by decide +kernel
theorem dX1_thousandBy_1 : decode cX1_thousandBy 1 = .ok (.getfield 7, 3) := by decide +kernel
theorem dX1_thousandBy_4 : decode cX1_thousandBy 4 = .ok (.lconst 0, 1) := by decide +kernel
theorem dX1_thousandBy_5 : decode cX1_thousandBy 5 = .ok (.lcmp, 1) := by decide +kernel
theorem dX1_thousandBy_6 : decode cX1_thousandBy 6 = .ok (.ifCond .gt 7, 3) := by decide +kernel
theorem dX1_thousandBy_9 : decode cX1_thousandBy 9 = .ok (.iconst 0, 1) := by decide +kernel
theorem dX1_thousandBy_10 : decode cX1_thousandBy 10 = .ok (.goto 17, 3) := by decide +kernel
theorem dX1_thousandBy_13 : decode cX1_thousandBy 13 = .ok (.ldc2_w 34, 3) := by decide +kernel
theorem dX1_thousandBy_16 : decode cX1_thousandBy 16 = .ok (.aload_n 0, 1) := by decide +kernel
theorem dX1_thousandBy_17 : decode cX1_thousandBy 17 = .ok (.getfield 13, 3) := by decide +kernel
theorem dX1_thousandBy_20 : decode cX1_thousandBy 20 = .ok (.lmul, 1) := by decide +kernel
theorem dX1_thousandBy_21 : decode cX1_thousandBy 21 = .ok (.aload_n 0, 1) := by decide +kernel
theorem dX1_thousandBy_22 : decode cX1_thousandBy 22 = .ok (.getfield 7, 3) := by decide +kernel
theorem dX1_thousandBy_25 : decode cX1_thousandBy 25 = .ok (.ldiv, 1) := by decide +kernel
theorem dX1_thousandBy_26 : decode cX1_thousandBy 26 = .ok (.l2i, 1) := by decide +kernel
theorem dX1_thousandBy_27 : decode cX1_thousandBy 27 = .ok (.ireturn, 1) := by decide +kernel
theorem dX1_told_0 : decode cX1_told 0 = .ok (.iload_n 1, 1) := by decide +kernel
theorem dX1_told_1 : decode cX1_told 1 = .ok (.ifCond .ne 10, 3) := by decide +kernel
theorem dX1_told_4 : decode cX1_told 4 = .ok (.aload_n 0, 1) := by decide +kernel
theorem dX1_told_5 : decode cX1_told 5 = .ok (.getfield 7, 3) := by decide +kernel
theorem dX1_told_8 : decode cX1_told 8 = .ok (.goto 7, 3) := by decide +kernel
theorem dX1_told_11 : decode cX1_told 11 = .ok (.aload_n 0, 1) := by decide +kernel
theorem dX1_told_12 : decode cX1_told 12 = .ok (.getfield 13, 3) := by decide +kernel
theorem dX1_told_15 : decode cX1_told 15 = .ok (.lreturn, 1) := by decide +kernel
theorem dX1_commonDivisor_0 : decode cX1_commonDivisor 0 = .ok (.lload_n 0, 1) := by decide +kernel
theorem dX1_commonDivisor_1 : decode cX1_commonDivisor 1 = .ok (.lstore 4, 2) := by decide +kernel
theorem dX1_commonDivisor_3 : decode cX1_commonDivisor 3 = .ok (.lload_n 2, 1) := by decide +kernel
theorem dX1_commonDivisor_4 : decode cX1_commonDivisor 4 = .ok (.lstore 6, 2) := by decide +kernel
theorem dX1_commonDivisor_6 : decode cX1_commonDivisor 6 = .ok (.iconst 0, 1) := by decide +kernel
theorem dX1_commonDivisor_7 : decode cX1_commonDivisor 7 = .ok (.istore 8, 2) := by decide +kernel
theorem dX1_commonDivisor_9 : decode cX1_commonDivisor 9 = .ok (.iload 8, 2) := by decide +kernel
theorem dX1_commonDivisor_11 : decode cX1_commonDivisor 11 = .ok (.sipush 1000, 3) := by decide +kernel
theorem dX1_commonDivisor_14 : decode cX1_commonDivisor 14 = .ok (.if_icmp .ge 31, 3) := by decide +kernel
theorem dX1_commonDivisor_17 : decode cX1_commonDivisor 17 = .ok (.lload 6, 2) := by decide +kernel
theorem dX1_commonDivisor_19 : decode cX1_commonDivisor 19 = .ok (.lconst 0, 1) := by decide +kernel
theorem dX1_commonDivisor_20 : decode cX1_commonDivisor 20 = .ok (.lcmp, 1) := by decide +kernel
theorem dX1_commonDivisor_21 : decode cX1_commonDivisor 21 = .ok (.ifCond .le 24, 3) := by decide +kernel
theorem dX1_commonDivisor_24 : decode cX1_commonDivisor 24 = .ok (.lload 4, 2) := by decide +kernel
theorem dX1_commonDivisor_26 : decode cX1_commonDivisor 26 = .ok (.lload 6, 2) := by decide +kernel
theorem dX1_commonDivisor_28 : decode cX1_commonDivisor 28 = .ok (.lrem, 1) := by decide +kernel
theorem dX1_commonDivisor_29 : decode cX1_commonDivisor 29 = .ok (.lstore 9, 2) := by decide +kernel
theorem dX1_commonDivisor_31 : decode cX1_commonDivisor 31 = .ok (.lload 6, 2) := by decide +kernel
theorem dX1_commonDivisor_33 : decode cX1_commonDivisor 33 = .ok (.lstore 4, 2) := by decide +kernel
theorem dX1_commonDivisor_35 : decode cX1_commonDivisor 35 = .ok (.lload 9, 2) := by decide +kernel
theorem dX1_commonDivisor_37 : decode cX1_commonDivisor 37 = .ok (.lstore 6, 2) := by decide +kernel
theorem dX1_commonDivisor_39 : decode cX1_commonDivisor 39 = .ok (.iinc 8 1, 3) := by decide +kernel
theorem dX1_commonDivisor_42 : decode cX1_commonDivisor 42 = .ok (.goto (-33), 3) := by decide +kernel
theorem dX1_commonDivisor_45 : decode cX1_commonDivisor 45 = .ok (.lload 4, 2) := by decide +kernel
theorem dX1_commonDivisor_47 : decode cX1_commonDivisor 47 = .ok (.lconst 0, 1) := by decide +kernel
theorem dX1_commonDivisor_48 : decode cX1_commonDivisor 48 = .ok (.lcmp, 1) := by decide +kernel
theorem dX1_commonDivisor_49 : decode cX1_commonDivisor 49 = .ok (.ifCond .gt 7, 3) := by decide +kernel
theorem dX1_commonDivisor_52 : decode cX1_commonDivisor 52 = .ok (.lconst 1, 1) := by decide +kernel
theorem dX1_commonDivisor_53 : decode cX1_commonDivisor 53 = .ok (.goto 5, 3) := by decide +kernel
theorem dX1_commonDivisor_56 : decode cX1_commonDivisor 56 = .ok (.lload 4, 2) := by decide +kernel
theorem dX1_commonDivisor_58 : decode cX1_commonDivisor 58 = .ok (.lreturn, 1) := by decide +kernel
theorem dX2_init_0 : decode cX2_init 0 = .ok (.aload_n 0, 1) := by decide +kernel
theorem dX2_init_1 : decode cX2_init 1 = .ok (.aload_n 1, 1) := by decide +kernel
theorem dX2_init_2 : decode cX2_init 2 = .ok (.aload_n 2, 1) := by decide +kernel
theorem dX2_init_3 : decode cX2_init 3 = .ok (.invokespecial 3, 3) := by decide +kernel
theorem dX2_init_6 : decode cX2_init 6 = .ok (.aload_n 0, 1) := by decide +kernel
theorem dX2_init_7 : decode cX2_init 7 = .ok (.iload_n 3, 1) := by decide +kernel
theorem dX2_init_8 : decode cX2_init 8 = .ok (.putfield 9, 3) := by decide +kernel
theorem dX2_init_11 : decode cX2_init 11 = .ok (.aload_n 0, 1) := by decide +kernel
theorem dX2_init_12 : decode cX2_init 12 = .ok (.iload_n 3, 1) := by decide +kernel
theorem dX2_init_13 : decode cX2_init 13 = .ok (.ifCond .eq 7, 3) := by decide +kernel
theorem dX2_init_16 : decode cX2_init 16 = .ok (.iconst 4, 1) := by decide +kernel
theorem dX2_init_17 : decode cX2_init 17 = .ok (.goto 4, 3) := by decide +kernel
theorem dX2_init_20 : decode cX2_init 20 = .ok (.iconst 1, 1) := by decide +kernel
theorem dX2_init_21 : decode cX2_init 21 = .ok (.putfield 15, 3) := by decide +kernel
theorem dX2_init_24 : decode cX2_init 24 = .ok (.return_, 1) := by decide +kernel
theorem dX2_groupOf_0 : decode cX2_groupOf 0 = .ok (.aload_n 0, 1) := by decide +kernel
theorem dX2_groupOf_1 : decode cX2_groupOf 1 = .ok (.getfield 9, 3) := by decide +kernel
theorem dX2_groupOf_4 : decode cX2_groupOf 4 = .ok (.ifCond .eq 15, 3) := by decide +kernel
theorem dX2_groupOf_7 : decode cX2_groupOf 7 = .ok (.aload_n 0, 1) := by decide +kernel
theorem dX2_groupOf_8 : decode cX2_groupOf 8 = .ok (.getfield 19, 3) := by decide +kernel
theorem dX2_groupOf_11 : decode cX2_groupOf 11 = .ok (.getfield 23, 3) := by decide +kernel
theorem dX2_groupOf_14 : decode cX2_groupOf 14 = .ok (.iload_n 1, 1) := by decide +kernel
theorem dX2_groupOf_15 : decode cX2_groupOf 15 = .ok (.iaload, 1) := by decide +kernel
theorem dX2_groupOf_16 : decode cX2_groupOf 16 = .ok (.goto 4, 3) := by decide +kernel
theorem dX2_groupOf_19 : decode cX2_groupOf 19 = .ok (.iconst 0, 1) := by decide +kernel
theorem dX2_groupOf_20 : decode cX2_groupOf 20 = .ok (.ireturn, 1) := by decide +kernel
theorem dX2_membersOf_0 : decode cX2_membersOf 0 = .ok (.aload_n 0, 1) := by decide +kernel
theorem dX2_membersOf_1 : decode cX2_membersOf 1 = .ok (.getfield 9, 3) := by decide +kernel
theorem dX2_membersOf_4 : decode cX2_membersOf 4 = .ok (.ifCond .eq 15, 3) := by decide +kernel
theorem dX2_membersOf_7 : decode cX2_membersOf 7 = .ok (.aload_n 0, 1) := by decide +kernel
theorem dX2_membersOf_8 : decode cX2_membersOf 8 = .ok (.getfield 19, 3) := by decide +kernel
theorem dX2_membersOf_11 : decode cX2_membersOf 11 = .ok (.getfield 29, 3) := by decide +kernel
theorem dX2_membersOf_14 : decode cX2_membersOf 14 = .ok (.iload_n 1, 1) := by decide +kernel
theorem dX2_membersOf_15 : decode cX2_membersOf 15 = .ok (.iaload, 1) := by decide +kernel
theorem dX2_membersOf_16 : decode cX2_membersOf 16 = .ok (.goto 10, 3) := by decide +kernel
theorem dX2_membersOf_19 : decode cX2_membersOf 19 = .ok (.aload_n 0, 1) := by decide +kernel
theorem dX2_membersOf_20 : decode cX2_membersOf 20 = .ok (.getfield 19, 3) := by decide +kernel
theorem dX2_membersOf_23 : decode cX2_membersOf 23 = .ok (.getfield 32, 3) := by decide +kernel
theorem dX2_membersOf_26 : decode cX2_membersOf 26 = .ok (.ireturn, 1) := by decide +kernel
theorem dX2_sizeOf_0 : decode cX2_sizeOf 0 = .ok (.aload_n 0, 1) := by decide +kernel
theorem dX2_sizeOf_1 : decode cX2_sizeOf 1 = .ok (.iload_n 1, 1) := by decide +kernel
theorem dX2_sizeOf_2 : decode cX2_sizeOf 2 = .ok (.invokevirtual 35, 3) := by decide +kernel
theorem dX2_sizeOf_5 : decode cX2_sizeOf 5 = .ok (.invokestatic 39, 3) := by decide +kernel
theorem dX2_sizeOf_8 : decode cX2_sizeOf 8 = .ok (.ireturn, 1) := by decide +kernel
theorem dX2_canBe_0 : decode cX2_canBe 0 = .ok (.iconst 0, 1) := by decide +kernel
theorem dX2_canBe_1 : decode cX2_canBe 1 = .ok (.istore_n 1, 1) := by decide +kernel
theorem dX2_canBe_2 : decode cX2_canBe 2 = .ok (.iconst 0, 1) := by decide +kernel
theorem dX2_canBe_3 : decode cX2_canBe 3 = .ok (.istore_n 2, 1) := by decide +kernel
theorem dX2_canBe_4 : decode cX2_canBe 4 = .ok (.iload_n 2, 1) := by decide +kernel
theorem dX2_canBe_5 : decode cX2_canBe 5 = .ok (.aload_n 0, 1) := by decide +kernel
theorem dX2_canBe_6 : decode cX2_canBe 6 = .ok (.getfield 15, 3) := by decide +kernel
theorem dX2_canBe_9 : decode cX2_canBe 9 = .ok (.if_icmp .ge 44, 3) := by decide +kernel
theorem dX2_canBe_12 : decode cX2_canBe 12 = .ok (.aload_n 0, 1) := by decide +kernel
theorem dX2_canBe_13 : decode cX2_canBe 13 = .ok (.getfield 44, 3) := by decide +kernel
theorem dX2_canBe_16 : decode cX2_canBe 16 = .ok (.iload_n 2, 1) := by decide +kernel
theorem dX2_canBe_17 : decode cX2_canBe 17 = .ok (.iaload, 1) := by decide +kernel
theorem dX2_canBe_18 : decode cX2_canBe 18 = .ok (.aload_n 0, 1) := by decide +kernel
theorem dX2_canBe_19 : decode cX2_canBe 19 = .ok (.iload_n 2, 1) := by decide +kernel
theorem dX2_canBe_20 : decode cX2_canBe 20 = .ok (.invokevirtual 47, 3) := by decide +kernel
theorem dX2_canBe_23 : decode cX2_canBe 23 = .ok (.if_icmp .le 5, 3) := by decide +kernel
theorem dX2_canBe_26 : decode cX2_canBe 26 = .ok (.iconst 0, 1) := by decide +kernel
theorem dX2_canBe_27 : decode cX2_canBe 27 = .ok (.ireturn, 1) := by decide +kernel
theorem dX2_canBe_28 : decode cX2_canBe 28 = .ok (.iload_n 1, 1) := by decide +kernel
theorem dX2_canBe_29 : decode cX2_canBe 29 = .ok (.ifCond .ne 12, 3) := by decide +kernel
theorem dX2_canBe_32 : decode cX2_canBe 32 = .ok (.aload_n 0, 1) := by decide +kernel
theorem dX2_canBe_33 : decode cX2_canBe 33 = .ok (.getfield 44, 3) := by decide +kernel
theorem dX2_canBe_36 : decode cX2_canBe 36 = .ok (.iload_n 2, 1) := by decide +kernel
theorem dX2_canBe_37 : decode cX2_canBe 37 = .ok (.iaload, 1) := by decide +kernel
theorem dX2_canBe_38 : decode cX2_canBe 38 = .ok (.ifCond .le 7, 3) := by decide +kernel
theorem dX2_canBe_41 : decode cX2_canBe 41 = .ok (.iconst 1, 1) := by decide +kernel
theorem dX2_canBe_42 : decode cX2_canBe 42 = .ok (.goto 4, 3) := by decide +kernel
theorem dX2_canBe_45 : decode cX2_canBe 45 = .ok (.iconst 0, 1) := by decide +kernel
theorem dX2_canBe_46 : decode cX2_canBe 46 = .ok (.istore_n 1, 1) := by decide +kernel
theorem dX2_canBe_47 : decode cX2_canBe 47 = .ok (.iinc 2 1, 3) := by decide +kernel
theorem dX2_canBe_50 : decode cX2_canBe 50 = .ok (.goto (-46), 3) := by decide +kernel
theorem dX2_canBe_53 : decode cX2_canBe 53 = .ok (.iload_n 1, 1) := by decide +kernel
theorem dX2_canBe_54 : decode cX2_canBe 54 = .ok (.ireturn, 1) := by decide +kernel
theorem dX2_countWays_0 : decode cX2_countWays 0 = .ok (.lconst 1, 1) := by decide +kernel
theorem dX2_countWays_1 : decode cX2_countWays 1 = .ok (.lstore_n 1, 1) := by decide +kernel
theorem dX2_countWays_2 : decode cX2_countWays 2 = .ok (.iconst 0, 1) := by decide +kernel
theorem dX2_countWays_3 : decode cX2_countWays 3 = .ok (.istore_n 3, 1) := by decide +kernel
theorem dX2_countWays_4 : decode cX2_countWays 4 = .ok (.iload_n 3, 1) := by decide +kernel
theorem dX2_countWays_5 : decode cX2_countWays 5 = .ok (.aload_n 0, 1) := by decide +kernel
theorem dX2_countWays_6 : decode cX2_countWays 6 = .ok (.getfield 15, 3) := by decide +kernel
theorem dX2_countWays_9 : decode cX2_countWays 9 = .ok (.if_icmp .ge 26, 3) := by decide +kernel
theorem dX2_countWays_12 : decode cX2_countWays 12 = .ok (.lload_n 1, 1) := by decide +kernel
theorem dX2_countWays_13 : decode cX2_countWays 13 = .ok (.aload_n 0, 1) := by decide +kernel
theorem dX2_countWays_14 : decode cX2_countWays 14 = .ok (.getfield 44, 3) := by decide +kernel
theorem dX2_countWays_17 : decode cX2_countWays 17 = .ok (.iload_n 3, 1) := by decide +kernel
theorem dX2_countWays_18 : decode cX2_countWays 18 = .ok (.iaload, 1) := by decide +kernel
theorem dX2_countWays_19 : decode cX2_countWays 19 = .ok (.aload_n 0, 1) := by decide +kernel
theorem dX2_countWays_20 : decode cX2_countWays 20 = .ok (.iload_n 3, 1) := by decide +kernel
theorem dX2_countWays_21 : decode cX2_countWays 21 = .ok (.invokevirtual 47, 3) := by decide +kernel
theorem dX2_countWays_24 : decode cX2_countWays 24 = .ok (.invokestatic 50, 3) := by decide +kernel
theorem dX2_countWays_27 : decode cX2_countWays 27 = .ok (.lmul, 1) := by decide +kernel
theorem dX2_countWays_28 : decode cX2_countWays 28 = .ok (.lstore_n 1, 1) := by decide +kernel
theorem dX2_countWays_29 : decode cX2_countWays 29 = .ok (.iinc 3 1, 3) := by decide +kernel
theorem dX2_countWays_32 : decode cX2_countWays 32 = .ok (.goto (-28), 3) := by decide +kernel
theorem dX2_countWays_35 : decode cX2_countWays 35 = .ok (.lload_n 1, 1) := by decide +kernel
theorem dX2_countWays_36 : decode cX2_countWays 36 = .ok (.lreturn, 1) := by decide +kernel
theorem dX2_shareOfOne_0 : decode cX2_shareOfOne 0 = .ok (.aload_n 0, 1) := by decide +kernel
theorem dX2_shareOfOne_1 : decode cX2_shareOfOne 1 = .ok (.iload_n 1, 1) := by decide +kernel
theorem dX2_shareOfOne_2 : decode cX2_shareOfOne 2 = .ok (.invokevirtual 54, 3) := by decide +kernel
theorem dX2_shareOfOne_5 : decode cX2_shareOfOne 5 = .ok (.istore_n 3, 1) := by decide +kernel
theorem dX2_shareOfOne_6 : decode cX2_shareOfOne 6 = .ok (.aload_n 2, 1) := by decide +kernel
theorem dX2_shareOfOne_7 : decode cX2_shareOfOne 7 = .ok (.aload_n 0, 1) := by decide +kernel
theorem dX2_shareOfOne_8 : decode cX2_shareOfOne 8 = .ok (.getfield 44, 3) := by decide +kernel
theorem dX2_shareOfOne_11 : decode cX2_shareOfOne 11 = .ok (.iload_n 3, 1) := by decide +kernel
theorem dX2_shareOfOne_12 : decode cX2_shareOfOne 12 = .ok (.iaload, 1) := by decide +kernel
theorem dX2_shareOfOne_13 : decode cX2_shareOfOne 13 = .ok (.i2l, 1) := by decide +kernel
theorem dX2_shareOfOne_14 : decode cX2_shareOfOne 14 = .ok (.aload_n 0, 1) := by decide +kernel
theorem dX2_shareOfOne_15 : decode cX2_shareOfOne 15 = .ok (.iload_n 3, 1) := by decide +kernel
theorem dX2_shareOfOne_16 : decode cX2_shareOfOne 16 = .ok (.invokevirtual 47, 3) := by decide +kernel
theorem dX2_shareOfOne_19 : decode cX2_shareOfOne 19 = .ok (.i2l, 1) := by decide +kernel
theorem dX2_shareOfOne_20 : decode cX2_shareOfOne 20 = .ok (.invokevirtual 57, 3) := by decide +kernel
theorem dX2_shareOfOne_23 : decode cX2_shareOfOne 23 = .ok (.return_, 1) := by decide +kernel
theorem dX2_shareOfTwo_0 : decode cX2_shareOfTwo 0 = .ok (.aload_n 0, 1) := by decide +kernel
theorem dX2_shareOfTwo_1 : decode cX2_shareOfTwo 1 = .ok (.iload_n 1, 1) := by decide +kernel
theorem dX2_shareOfTwo_2 : decode cX2_shareOfTwo 2 = .ok (.invokevirtual 54, 3) := by decide +kernel
theorem dX2_shareOfTwo_5 : decode cX2_shareOfTwo 5 = .ok (.istore 4, 2) := by decide +kernel
theorem dX2_shareOfTwo_7 : decode cX2_shareOfTwo 7 = .ok (.aload_n 0, 1) := by decide +kernel
theorem dX2_shareOfTwo_8 : decode cX2_shareOfTwo 8 = .ok (.iload_n 2, 1) := by decide +kernel
theorem dX2_shareOfTwo_9 : decode cX2_shareOfTwo 9 = .ok (.invokevirtual 54, 3) := by decide +kernel
theorem dX2_shareOfTwo_12 : decode cX2_shareOfTwo 12 = .ok (.istore 5, 2) := by decide +kernel
theorem dX2_shareOfTwo_14 : decode cX2_shareOfTwo 14 = .ok (.iload 4, 2) := by decide +kernel
theorem dX2_shareOfTwo_16 : decode cX2_shareOfTwo 16 = .ok (.iload 5, 2) := by decide +kernel
theorem dX2_shareOfTwo_18 : decode cX2_shareOfTwo 18 = .ok (.if_icmp .ne 7, 3) := by decide +kernel
theorem dX2_shareOfTwo_21 : decode cX2_shareOfTwo 21 = .ok (.iconst 1, 1) := by decide +kernel
theorem dX2_shareOfTwo_22 : decode cX2_shareOfTwo 22 = .ok (.goto 4, 3) := by decide +kernel
theorem dX2_shareOfTwo_25 : decode cX2_shareOfTwo 25 = .ok (.iconst 0, 1) := by decide +kernel
theorem dX2_shareOfTwo_26 : decode cX2_shareOfTwo 26 = .ok (.istore 6, 2) := by decide +kernel
theorem dX2_shareOfTwo_28 : decode cX2_shareOfTwo 28 = .ok (.aload_n 3, 1) := by decide +kernel
theorem dX2_shareOfTwo_29 : decode cX2_shareOfTwo 29 = .ok (.aload_n 0, 1) := by decide +kernel
theorem dX2_shareOfTwo_30 : decode cX2_shareOfTwo 30 = .ok (.getfield 44, 3) := by decide +kernel
theorem dX2_shareOfTwo_33 : decode cX2_shareOfTwo 33 = .ok (.iload 4, 2) := by decide +kernel
theorem dX2_shareOfTwo_35 : decode cX2_shareOfTwo 35 = .ok (.iaload, 1) := by decide +kernel
theorem dX2_shareOfTwo_36 : decode cX2_shareOfTwo 36 = .ok (.i2l, 1) := by decide +kernel
theorem dX2_shareOfTwo_37 : decode cX2_shareOfTwo 37 = .ok (.aload_n 0, 1) := by decide +kernel
theorem dX2_shareOfTwo_38 : decode cX2_shareOfTwo 38 = .ok (.getfield 44, 3) := by decide +kernel
theorem dX2_shareOfTwo_41 : decode cX2_shareOfTwo 41 = .ok (.iload 5, 2) := by decide +kernel
theorem dX2_shareOfTwo_43 : decode cX2_shareOfTwo 43 = .ok (.iaload, 1) := by decide +kernel
theorem dX2_shareOfTwo_44 : decode cX2_shareOfTwo 44 = .ok (.iload 6, 2) := by decide +kernel
theorem dX2_shareOfTwo_46 : decode cX2_shareOfTwo 46 = .ok (.isub, 1) := by decide +kernel
theorem dX2_shareOfTwo_47 : decode cX2_shareOfTwo 47 = .ok (.i2l, 1) := by decide +kernel
theorem dX2_shareOfTwo_48 : decode cX2_shareOfTwo 48 = .ok (.lmul, 1) := by decide +kernel
theorem dX2_shareOfTwo_49 : decode cX2_shareOfTwo 49 = .ok (.aload_n 0, 1) := by decide +kernel
theorem dX2_shareOfTwo_50 : decode cX2_shareOfTwo 50 = .ok (.iload 4, 2) := by decide +kernel
theorem dX2_shareOfTwo_52 : decode cX2_shareOfTwo 52 = .ok (.invokevirtual 47, 3) := by decide +kernel
theorem dX2_shareOfTwo_55 : decode cX2_shareOfTwo 55 = .ok (.i2l, 1) := by decide +kernel
theorem dX2_shareOfTwo_56 : decode cX2_shareOfTwo 56 = .ok (.aload_n 0, 1) := by decide +kernel
theorem dX2_shareOfTwo_57 : decode cX2_shareOfTwo 57 = .ok (.iload 5, 2) := by decide +kernel
theorem dX2_shareOfTwo_59 : decode cX2_shareOfTwo 59 = .ok (.invokevirtual 47, 3) := by decide +kernel
theorem dX2_shareOfTwo_62 : decode cX2_shareOfTwo 62 = .ok (.iload 6, 2) := by decide +kernel
theorem dX2_shareOfTwo_64 : decode cX2_shareOfTwo 64 = .ok (.isub, 1) := by decide +kernel
theorem dX2_shareOfTwo_65 : decode cX2_shareOfTwo 65 = .ok (.i2l, 1) := by decide +kernel
theorem dX2_shareOfTwo_66 : decode cX2_shareOfTwo 66 = .ok (.lmul, 1) := by decide +kernel
theorem dX2_shareOfTwo_67 : decode cX2_shareOfTwo 67 = .ok (.invokevirtual 57, 3) := by decide +kernel
theorem dX2_shareOfTwo_70 : decode cX2_shareOfTwo 70 = .ok (.return_, 1) := by decide +kernel
theorem dX2_fewest_0 : decode cX2_fewest 0 = .ok (.aload_n 0, 1) := by decide +kernel
theorem dX2_fewest_1 : decode cX2_fewest 1 = .ok (.invokevirtual 63, 3) := by decide +kernel
theorem dX2_fewest_4 : decode cX2_fewest 4 = .ok (.ireturn, 1) := by decide +kernel
theorem dX2_most_0 : decode cX2_most 0 = .ok (.iconst 0, 1) := by decide +kernel
theorem dX2_most_1 : decode cX2_most 1 = .ok (.istore_n 1, 1) := by decide +kernel
theorem dX2_most_2 : decode cX2_most 2 = .ok (.iconst 0, 1) := by decide +kernel
theorem dX2_most_3 : decode cX2_most 3 = .ok (.istore_n 2, 1) := by decide +kernel
theorem dX2_most_4 : decode cX2_most 4 = .ok (.iload_n 2, 1) := by decide +kernel
theorem dX2_most_5 : decode cX2_most 5 = .ok (.aload_n 0, 1) := by decide +kernel
theorem dX2_most_6 : decode cX2_most 6 = .ok (.getfield 15, 3) := by decide +kernel
theorem dX2_most_9 : decode cX2_most 9 = .ok (.if_icmp .ge 18, 3) := by decide +kernel
theorem dX2_most_12 : decode cX2_most 12 = .ok (.iload_n 1, 1) := by decide +kernel
theorem dX2_most_13 : decode cX2_most 13 = .ok (.aload_n 0, 1) := by decide +kernel
theorem dX2_most_14 : decode cX2_most 14 = .ok (.getfield 44, 3) := by decide +kernel
theorem dX2_most_17 : decode cX2_most 17 = .ok (.iload_n 2, 1) := by decide +kernel
theorem dX2_most_18 : decode cX2_most 18 = .ok (.iaload, 1) := by decide +kernel
theorem dX2_most_19 : decode cX2_most 19 = .ok (.iadd, 1) := by decide +kernel
theorem dX2_most_20 : decode cX2_most 20 = .ok (.istore_n 1, 1) := by decide +kernel
theorem dX2_most_21 : decode cX2_most 21 = .ok (.iinc 2 1, 3) := by decide +kernel
theorem dX2_most_24 : decode cX2_most 24 = .ok (.goto (-20), 3) := by decide +kernel
theorem dX2_most_27 : decode cX2_most 27 = .ok (.iload_n 1, 1) := by decide +kernel
theorem dX2_most_28 : decode cX2_most 28 = .ok (.ireturn, 1) := by decide +kernel
theorem dX2_canMake_0 : decode cX2_canMake 0 = .ok (.iconst 0, 1) := by decide +kernel
theorem dX2_canMake_1 : decode cX2_canMake 1 = .ok (.istore_n 2, 1) := by decide +kernel
theorem dX2_canMake_2 : decode cX2_canMake 2 = .ok (.iload_n 2, 1) := by decide +kernel
theorem dX2_canMake_3 : decode cX2_canMake 3 = .ok (.aload_n 0, 1) := by decide +kernel
theorem dX2_canMake_4 : decode cX2_canMake 4 = .ok (.getfield 15, 3) := by decide +kernel
theorem dX2_canMake_7 : decode cX2_canMake 7 = .ok (.if_icmp .ge 30, 3) := by decide +kernel
theorem dX2_canMake_10 : decode cX2_canMake 10 = .ok (.iload_n 1, 1) := by decide +kernel
theorem dX2_canMake_11 : decode cX2_canMake 11 = .ok (.aload_n 0, 1) := by decide +kernel
theorem dX2_canMake_12 : decode cX2_canMake 12 = .ok (.iload_n 2, 1) := by decide +kernel
theorem dX2_canMake_13 : decode cX2_canMake 13 = .ok (.invokevirtual 35, 3) := by decide +kernel
theorem dX2_canMake_16 : decode cX2_canMake 16 = .ok (.iand, 1) := by decide +kernel
theorem dX2_canMake_17 : decode cX2_canMake 17 = .ok (.invokestatic 39, 3) := by decide +kernel
theorem dX2_canMake_20 : decode cX2_canMake 20 = .ok (.aload_n 0, 1) := by decide +kernel
theorem dX2_canMake_21 : decode cX2_canMake 21 = .ok (.getfield 44, 3) := by decide +kernel
theorem dX2_canMake_24 : decode cX2_canMake 24 = .ok (.iload_n 2, 1) := by decide +kernel
theorem dX2_canMake_25 : decode cX2_canMake 25 = .ok (.iaload, 1) := by decide +kernel
theorem dX2_canMake_26 : decode cX2_canMake 26 = .ok (.if_icmp .eq 5, 3) := by decide +kernel
theorem dX2_canMake_29 : decode cX2_canMake 29 = .ok (.iconst 0, 1) := by decide +kernel
theorem dX2_canMake_30 : decode cX2_canMake 30 = .ok (.ireturn, 1) := by decide +kernel
theorem dX2_canMake_31 : decode cX2_canMake 31 = .ok (.iinc 2 1, 3) := by decide +kernel
theorem dX2_canMake_34 : decode cX2_canMake 34 = .ok (.goto (-32), 3) := by decide +kernel
theorem dX2_canMake_37 : decode cX2_canMake 37 = .ok (.iconst 1, 1) := by decide +kernel
theorem dX2_canMake_38 : decode cX2_canMake 38 = .ok (.ireturn, 1) := by decide +kernel
theorem dX2_drawByLots_0 : decode cX2_drawByLots 0 = .ok (.iconst 0, 1) := by decide +kernel
theorem dX2_drawByLots_1 : decode cX2_drawByLots 1 = .ok (.istore_n 1, 1) := by decide +kernel
theorem dX2_drawByLots_2 : decode cX2_drawByLots 2 = .ok (.iconst 0, 1) := by decide +kernel
theorem dX2_drawByLots_3 : decode cX2_drawByLots 3 = .ok (.istore_n 2, 1) := by decide +kernel
theorem dX2_drawByLots_4 : decode cX2_drawByLots 4 = .ok (.iload_n 2, 1) := by decide +kernel
theorem dX2_drawByLots_5 : decode cX2_drawByLots 5 = .ok (.aload_n 0, 1) := by decide +kernel
theorem dX2_drawByLots_6 : decode cX2_drawByLots 6 = .ok (.getfield 15, 3) := by decide +kernel
theorem dX2_drawByLots_9 : decode cX2_drawByLots 9 = .ok (.if_icmp .ge 27, 3) := by decide +kernel
theorem dX2_drawByLots_12 : decode cX2_drawByLots 12 = .ok (.iload_n 1, 1) := by decide +kernel
theorem dX2_drawByLots_13 : decode cX2_drawByLots 13 = .ok (.aload_n 0, 1) := by decide +kernel
theorem dX2_drawByLots_14 : decode cX2_drawByLots 14 = .ok (.aload_n 0, 1) := by decide +kernel
theorem dX2_drawByLots_15 : decode cX2_drawByLots 15 = .ok (.iload_n 2, 1) := by decide +kernel
theorem dX2_drawByLots_16 : decode cX2_drawByLots 16 = .ok (.invokevirtual 35, 3) := by decide +kernel
theorem dX2_drawByLots_19 : decode cX2_drawByLots 19 = .ok (.aload_n 0, 1) := by decide +kernel
theorem dX2_drawByLots_20 : decode cX2_drawByLots 20 = .ok (.getfield 44, 3) := by decide +kernel
theorem dX2_drawByLots_23 : decode cX2_drawByLots 23 = .ok (.iload_n 2, 1) := by decide +kernel
theorem dX2_drawByLots_24 : decode cX2_drawByLots 24 = .ok (.iaload, 1) := by decide +kernel
theorem dX2_drawByLots_25 : decode cX2_drawByLots 25 = .ok (.invokevirtual 67, 3) := by decide +kernel
theorem dX2_drawByLots_28 : decode cX2_drawByLots 28 = .ok (.ior, 1) := by decide +kernel
theorem dX2_drawByLots_29 : decode cX2_drawByLots 29 = .ok (.istore_n 1, 1) := by decide +kernel
theorem dX2_drawByLots_30 : decode cX2_drawByLots 30 = .ok (.iinc 2 1, 3) := by decide +kernel
theorem dX2_drawByLots_33 : decode cX2_drawByLots 33 = .ok (.goto (-29), 3) := by decide +kernel
theorem dX2_drawByLots_36 : decode cX2_drawByLots 36 = .ok (.iload_n 1, 1) := by decide +kernel
theorem dX2_drawByLots_37 : decode cX2_drawByLots 37 = .ok (.ireturn, 1) := by decide +kernel
theorem dX2_spreadInto_0 : decode cX2_spreadInto 0 = .ok (.aload_n 1, 1) := by decide +kernel
theorem dX2_spreadInto_1 : decode cX2_spreadInto 1 = .ok (.lconst 0, 1) := by decide +kernel
theorem dX2_spreadInto_2 : decode cX2_spreadInto 2 = .ok (.lconst 1, 1) := by decide +kernel
theorem dX2_spreadInto_3 : decode cX2_spreadInto 3 = .ok (.invokevirtual 57, 3) := by decide +kernel
theorem dX2_spreadInto_6 : decode cX2_spreadInto 6 = .ok (.iconst 0, 1) := by decide +kernel
theorem dX2_spreadInto_7 : decode cX2_spreadInto 7 = .ok (.istore_n 2, 1) := by decide +kernel
theorem dX2_spreadInto_8 : decode cX2_spreadInto 8 = .ok (.iload_n 2, 1) := by decide +kernel
theorem dX2_spreadInto_9 : decode cX2_spreadInto 9 = .ok (.aload_n 0, 1) := by decide +kernel
theorem dX2_spreadInto_10 : decode cX2_spreadInto 10 = .ok (.getfield 15, 3) := by decide +kernel
theorem dX2_spreadInto_13 : decode cX2_spreadInto 13 = .ok (.if_icmp .ge 47, 3) := by decide +kernel
theorem dX2_spreadInto_16 : decode cX2_spreadInto 16 = .ok (.aload_n 0, 1) := by decide +kernel
theorem dX2_spreadInto_17 : decode cX2_spreadInto 17 = .ok (.getfield 44, 3) := by decide +kernel
theorem dX2_spreadInto_20 : decode cX2_spreadInto 20 = .ok (.iload_n 2, 1) := by decide +kernel
theorem dX2_spreadInto_21 : decode cX2_spreadInto 21 = .ok (.iaload, 1) := by decide +kernel
theorem dX2_spreadInto_22 : decode cX2_spreadInto 22 = .ok (.ifCond .ne 6, 3) := by decide +kernel
theorem dX2_spreadInto_25 : decode cX2_spreadInto 25 = .ok (.goto 29, 3) := by decide +kernel
theorem dX2_spreadInto_28 : decode cX2_spreadInto 28 = .ok (.aload_n 0, 1) := by decide +kernel
theorem dX2_spreadInto_29 : decode cX2_spreadInto 29 = .ok (.iload_n 2, 1) := by decide +kernel
theorem dX2_spreadInto_30 : decode cX2_spreadInto 30 = .ok (.invokevirtual 35, 3) := by decide +kernel
theorem dX2_spreadInto_33 : decode cX2_spreadInto 33 = .ok (.aload_n 0, 1) := by decide +kernel
theorem dX2_spreadInto_34 : decode cX2_spreadInto 34 = .ok (.getfield 19, 3) := by decide +kernel
theorem dX2_spreadInto_37 : decode cX2_spreadInto 37 = .ok (.getfield 71, 3) := by decide +kernel
theorem dX2_spreadInto_40 : decode cX2_spreadInto 40 = .ok (.iconst (-1), 1) := by decide +kernel
theorem dX2_spreadInto_41 : decode cX2_spreadInto 41 = .ok (.ixor, 1) := by decide +kernel
theorem dX2_spreadInto_42 : decode cX2_spreadInto 42 = .ok (.iand, 1) := by decide +kernel
theorem dX2_spreadInto_43 : decode cX2_spreadInto 43 = .ok (.ifCond .eq 5, 3) := by decide +kernel
theorem dX2_spreadInto_46 : decode cX2_spreadInto 46 = .ok (.iconst 0, 1) := by decide +kernel
theorem dX2_spreadInto_47 : decode cX2_spreadInto 47 = .ok (.ireturn, 1) := by decide +kernel
theorem dX2_spreadInto_48 : decode cX2_spreadInto 48 = .ok (.aload_n 0, 1) := by decide +kernel
theorem dX2_spreadInto_49 : decode cX2_spreadInto 49 = .ok (.iload_n 2, 1) := by decide +kernel
theorem dX2_spreadInto_50 : decode cX2_spreadInto 50 = .ok (.aload_n 1, 1) := by decide +kernel
theorem dX2_spreadInto_51 : decode cX2_spreadInto 51 = .ok (.invokevirtual 74, 3) := by decide +kernel
theorem dX2_spreadInto_54 : decode cX2_spreadInto 54 = .ok (.iinc 2 1, 3) := by decide +kernel
theorem dX2_spreadInto_57 : decode cX2_spreadInto 57 = .ok (.goto (-49), 3) := by decide +kernel
theorem dX2_spreadInto_60 : decode cX2_spreadInto 60 = .ok (.iconst 1, 1) := by decide +kernel
theorem dX2_spreadInto_61 : decode cX2_spreadInto 61 = .ok (.ireturn, 1) := by decide +kernel
theorem dX2_addSpreadOf_0 : decode cX2_addSpreadOf 0 = .ok (.aload_n 0, 1) := by decide +kernel
theorem dX2_addSpreadOf_1 : decode cX2_addSpreadOf 1 = .ok (.iload_n 1, 1) := by decide +kernel
theorem dX2_addSpreadOf_2 : decode cX2_addSpreadOf 2 = .ok (.invokevirtual 35, 3) := by decide +kernel
theorem dX2_addSpreadOf_5 : decode cX2_addSpreadOf 5 = .ok (.istore_n 3, 1) := by decide +kernel
theorem dX2_addSpreadOf_6 : decode cX2_addSpreadOf 6 = .ok (.lconst 0, 1) := by decide +kernel
theorem dX2_addSpreadOf_7 : decode cX2_addSpreadOf 7 = .ok (.lstore 4, 2) := by decide +kernel
theorem dX2_addSpreadOf_9 : decode cX2_addSpreadOf 9 = .ok (.lconst 0, 1) := by decide +kernel
theorem dX2_addSpreadOf_10 : decode cX2_addSpreadOf 10 = .ok (.lstore 6, 2) := by decide +kernel
theorem dX2_addSpreadOf_12 : decode cX2_addSpreadOf 12 = .ok (.iconst 0, 1) := by decide +kernel
theorem dX2_addSpreadOf_13 : decode cX2_addSpreadOf 13 = .ok (.istore 8, 2) := by decide +kernel
theorem dX2_addSpreadOf_15 : decode cX2_addSpreadOf 15 = .ok (.iload 8, 2) := by decide +kernel
theorem dX2_addSpreadOf_17 : decode cX2_addSpreadOf 17 = .ok (.aload_n 0, 1) := by decide +kernel
theorem dX2_addSpreadOf_18 : decode cX2_addSpreadOf 18 = .ok (.getfield 19, 3) := by decide +kernel
theorem dX2_addSpreadOf_21 : decode cX2_addSpreadOf 21 = .ok (.getfield 78, 3) := by decide +kernel
theorem dX2_addSpreadOf_24 : decode cX2_addSpreadOf 24 = .ok (.if_icmp .ge 48, 3) := by decide +kernel
theorem dX2_addSpreadOf_27 : decode cX2_addSpreadOf 27 = .ok (.iload_n 3, 1) := by decide +kernel
theorem dX2_addSpreadOf_28 : decode cX2_addSpreadOf 28 = .ok (.iload 8, 2) := by decide +kernel
theorem dX2_addSpreadOf_30 : decode cX2_addSpreadOf 30 = .ok (.invokestatic 81, 3) := by decide +kernel
theorem dX2_addSpreadOf_33 : decode cX2_addSpreadOf 33 = .ok (.ifCond .eq 33, 3) := by decide +kernel
theorem dX2_addSpreadOf_36 : decode cX2_addSpreadOf 36 = .ok (.aload_n 0, 1) := by decide +kernel
theorem dX2_addSpreadOf_37 : decode cX2_addSpreadOf 37 = .ok (.getfield 19, 3) := by decide +kernel
theorem dX2_addSpreadOf_40 : decode cX2_addSpreadOf 40 = .ok (.getfield 85, 3) := by decide +kernel
theorem dX2_addSpreadOf_43 : decode cX2_addSpreadOf 43 = .ok (.iload 8, 2) := by decide +kernel
theorem dX2_addSpreadOf_45 : decode cX2_addSpreadOf 45 = .ok (.iaload, 1) := by decide +kernel
theorem dX2_addSpreadOf_46 : decode cX2_addSpreadOf 46 = .ok (.i2l, 1) := by decide +kernel
theorem dX2_addSpreadOf_47 : decode cX2_addSpreadOf 47 = .ok (.lstore 9, 2) := by decide +kernel
theorem dX2_addSpreadOf_49 : decode cX2_addSpreadOf 49 = .ok (.lload 4, 2) := by decide +kernel
theorem dX2_addSpreadOf_51 : decode cX2_addSpreadOf 51 = .ok (.lload 9, 2) := by decide +kernel
theorem dX2_addSpreadOf_53 : decode cX2_addSpreadOf 53 = .ok (.ladd, 1) := by decide +kernel
theorem dX2_addSpreadOf_54 : decode cX2_addSpreadOf 54 = .ok (.lstore 4, 2) := by decide +kernel
theorem dX2_addSpreadOf_56 : decode cX2_addSpreadOf 56 = .ok (.lload 6, 2) := by decide +kernel
theorem dX2_addSpreadOf_58 : decode cX2_addSpreadOf 58 = .ok (.lload 9, 2) := by decide +kernel
theorem dX2_addSpreadOf_60 : decode cX2_addSpreadOf 60 = .ok (.lload 9, 2) := by decide +kernel
theorem dX2_addSpreadOf_62 : decode cX2_addSpreadOf 62 = .ok (.lmul, 1) := by decide +kernel
theorem dX2_addSpreadOf_63 : decode cX2_addSpreadOf 63 = .ok (.ladd, 1) := by decide +kernel
theorem dX2_addSpreadOf_64 : decode cX2_addSpreadOf 64 = .ok (.lstore 6, 2) := by decide +kernel
theorem dX2_addSpreadOf_66 : decode cX2_addSpreadOf 66 = .ok (.iinc 8 1, 3) := by decide +kernel
theorem dX2_addSpreadOf_69 : decode cX2_addSpreadOf 69 = .ok (.goto (-54), 3) := by decide +kernel
theorem dX2_addSpreadOf_72 : decode cX2_addSpreadOf 72 = .ok (.aload_n 0, 1) := by decide +kernel
theorem dX2_addSpreadOf_73 : decode cX2_addSpreadOf 73 = .ok (.iload_n 1, 1) := by decide +kernel
theorem dX2_addSpreadOf_74 : decode cX2_addSpreadOf 74 = .ok (.invokevirtual 47, 3) := by decide +kernel
theorem dX2_addSpreadOf_77 : decode cX2_addSpreadOf 77 = .ok (.i2l, 1) := by decide +kernel
theorem dX2_addSpreadOf_78 : decode cX2_addSpreadOf 78 = .ok (.lstore 8, 2) := by decide +kernel
theorem dX2_addSpreadOf_80 : decode cX2_addSpreadOf 80 = .ok (.aload_n 0, 1) := by decide +kernel
theorem dX2_addSpreadOf_81 : decode cX2_addSpreadOf 81 = .ok (.getfield 44, 3) := by decide +kernel
theorem dX2_addSpreadOf_84 : decode cX2_addSpreadOf 84 = .ok (.iload_n 1, 1) := by decide +kernel
theorem dX2_addSpreadOf_85 : decode cX2_addSpreadOf 85 = .ok (.iaload, 1) := by decide +kernel
theorem dX2_addSpreadOf_86 : decode cX2_addSpreadOf 86 = .ok (.i2l, 1) := by decide +kernel
theorem dX2_addSpreadOf_87 : decode cX2_addSpreadOf 87 = .ok (.lstore 10, 2) := by decide +kernel
theorem dX2_addSpreadOf_89 : decode cX2_addSpreadOf 89 = .ok (.aload_n 2, 1) := by decide +kernel
theorem dX2_addSpreadOf_90 : decode cX2_addSpreadOf 90 = .ok (.lload 8, 2) := by decide +kernel
theorem dX2_addSpreadOf_92 : decode cX2_addSpreadOf 92 = .ok (.lload 10, 2) := by decide +kernel
theorem dX2_addSpreadOf_94 : decode cX2_addSpreadOf 94 = .ok (.lsub, 1) := by decide +kernel
theorem dX2_addSpreadOf_95 : decode cX2_addSpreadOf 95 = .ok (.lload 8, 2) := by decide +kernel
theorem dX2_addSpreadOf_97 : decode cX2_addSpreadOf 97 = .ok (.lload 6, 2) := by decide +kernel
theorem dX2_addSpreadOf_99 : decode cX2_addSpreadOf 99 = .ok (.lmul, 1) := by decide +kernel
theorem dX2_addSpreadOf_100 : decode cX2_addSpreadOf 100 = .ok (.lload 4, 2) := by decide +kernel
theorem dX2_addSpreadOf_102 : decode cX2_addSpreadOf 102 = .ok (.lload 4, 2) := by decide +kernel
theorem dX2_addSpreadOf_104 : decode cX2_addSpreadOf 104 = .ok (.lmul, 1) := by decide +kernel
theorem dX2_addSpreadOf_105 : decode cX2_addSpreadOf 105 = .ok (.lsub, 1) := by decide +kernel
theorem dX2_addSpreadOf_106 : decode cX2_addSpreadOf 106 = .ok (.lmul, 1) := by decide +kernel
theorem dX2_addSpreadOf_107 : decode cX2_addSpreadOf 107 = .ok (.lload 10, 2) := by decide +kernel
theorem dX2_addSpreadOf_109 : decode cX2_addSpreadOf 109 = .ok (.lload 8, 2) := by decide +kernel
theorem dX2_addSpreadOf_111 : decode cX2_addSpreadOf 111 = .ok (.lconst 1, 1) := by decide +kernel
theorem dX2_addSpreadOf_112 : decode cX2_addSpreadOf 112 = .ok (.lsub, 1) := by decide +kernel
theorem dX2_addSpreadOf_113 : decode cX2_addSpreadOf 113 = .ok (.lmul, 1) := by decide +kernel
theorem dX2_addSpreadOf_114 : decode cX2_addSpreadOf 114 = .ok (.invokevirtual 88, 3) := by decide +kernel
theorem dX2_addSpreadOf_117 : decode cX2_addSpreadOf 117 = .ok (.return_, 1) := by decide +kernel
theorem dX3_init_0 : decode cX3_init 0 = .ok (.aload_n 0, 1) := by decide +kernel
theorem dX3_init_1 : decode cX3_init 1 = .ok (.invokespecial 3, 3) := by decide +kernel
theorem dX3_init_4 : decode cX3_init 4 = .ok (.aload_n 0, 1) := by decide +kernel
theorem dX3_init_5 : decode cX3_init 5 = .ok (.bipush 8, 2) := by decide +kernel
theorem dX3_init_7 : decode cX3_init 7 = .ok (.newarray .int, 2) := by decide +kernel
theorem dX3_init_9 : decode cX3_init 9 = .ok (.putfield 9, 3) := by decide +kernel
theorem dX3_init_12 : decode cX3_init 12 = .ok (.aload_n 0, 1) := by decide +kernel
theorem dX3_init_13 : decode cX3_init 13 = .ok (.bipush 8, 2) := by decide +kernel
theorem dX3_init_15 : decode cX3_init 15 = .ok (.newarray .int, 2) := by decide +kernel
theorem dX3_init_17 : decode cX3_init 17 = .ok (.putfield 15, 3) := by decide +kernel
theorem dX3_init_20 : decode cX3_init 20 = .ok (.aload_n 0, 1) := by decide +kernel
theorem dX3_init_21 : decode cX3_init 21 = .ok (.new 18, 3) := by decide +kernel
theorem dX3_init_24 : decode cX3_init 24 = .ok (.dup, 1) := by decide +kernel
theorem dX3_init_25 : decode cX3_init 25 = .ok (.invokespecial 20, 3) := by decide +kernel
theorem dX3_init_28 : decode cX3_init 28 = .ok (.putfield 21, 3) := by decide +kernel
theorem dX3_init_31 : decode cX3_init 31 = .ok (.aload_n 0, 1) := by decide +kernel
theorem dX3_init_32 : decode cX3_init 32 = .ok (.aload_n 1, 1) := by decide +kernel
theorem dX3_init_33 : decode cX3_init 33 = .ok (.putfield 25, 3) := by decide +kernel
theorem dX3_init_36 : decode cX3_init 36 = .ok (.iconst 0, 1) := by decide +kernel
theorem dX3_init_37 : decode cX3_init 37 = .ok (.istore_n 2, 1) := by decide +kernel
theorem dX3_init_38 : decode cX3_init 38 = .ok (.iload_n 2, 1) := by decide +kernel
theorem dX3_init_39 : decode cX3_init 39 = .ok (.bipush 8, 2) := by decide +kernel
theorem dX3_init_41 : decode cX3_init 41 = .ok (.if_icmp .ge 16, 3) := by decide +kernel
theorem dX3_init_44 : decode cX3_init 44 = .ok (.aload_n 0, 1) := by decide +kernel
theorem dX3_init_45 : decode cX3_init 45 = .ok (.getfield 9, 3) := by decide +kernel
theorem dX3_init_48 : decode cX3_init 48 = .ok (.iload_n 2, 1) := by decide +kernel
theorem dX3_init_49 : decode cX3_init 49 = .ok (.iconst 5, 1) := by decide +kernel
theorem dX3_init_50 : decode cX3_init 50 = .ok (.iastore, 1) := by decide +kernel
theorem dX3_init_51 : decode cX3_init 51 = .ok (.iinc 2 1, 3) := by decide +kernel
theorem dX3_init_54 : decode cX3_init 54 = .ok (.goto (-16), 3) := by decide +kernel
theorem dX3_init_57 : decode cX3_init 57 = .ok (.return_, 1) := by decide +kernel
theorem dX3_seek_0 : decode cX3_seek 0 = .ok (.aload_n 0, 1) := by decide +kernel
theorem dX3_seek_1 : decode cX3_seek 1 = .ok (.aload_n 1, 1) := by decide +kernel
theorem dX3_seek_2 : decode cX3_seek 2 = .ok (.iload_n 2, 1) := by decide +kernel
theorem dX3_seek_3 : decode cX3_seek 3 = .ok (.aload_n 0, 1) := by decide +kernel
theorem dX3_seek_4 : decode cX3_seek 4 = .ok (.getfield 25, 3) := by decide +kernel
theorem dX3_seek_7 : decode cX3_seek 7 = .ok (.getfield 29, 3) := by decide +kernel
theorem dX3_seek_10 : decode cX3_seek 10 = .ok (.iconst (-1), 1) := by decide +kernel
theorem dX3_seek_11 : decode cX3_seek 11 = .ok (.ixor, 1) := by decide +kernel
theorem dX3_seek_12 : decode cX3_seek 12 = .ok (.iand, 1) := by decide +kernel
theorem dX3_seek_13 : decode cX3_seek 13 = .ok (.invokevirtual 35, 3) := by decide +kernel
theorem dX3_seek_16 : decode cX3_seek 16 = .ok (.istore 4, 2) := by decide +kernel
theorem dX3_seek_18 : decode cX3_seek 18 = .ok (.aload_n 0, 1) := by decide +kernel
theorem dX3_seek_19 : decode cX3_seek 19 = .ok (.iconst 0, 1) := by decide +kernel
theorem dX3_seek_20 : decode cX3_seek 20 = .ok (.putfield 39, 3) := by decide +kernel
theorem dX3_seek_23 : decode cX3_seek 23 = .ok (.aload_n 0, 1) := by decide +kernel
theorem dX3_seek_24 : decode cX3_seek 24 = .ok (.iconst 0, 1) := by decide +kernel
theorem dX3_seek_25 : decode cX3_seek 25 = .ok (.putfield 42, 3) := by decide +kernel
theorem dX3_seek_28 : decode cX3_seek 28 = .ok (.aload_n 0, 1) := by decide +kernel
theorem dX3_seek_29 : decode cX3_seek 29 = .ok (.iconst 0, 1) := by decide +kernel
theorem dX3_seek_30 : decode cX3_seek 30 = .ok (.putfield 45, 3) := by decide +kernel
theorem dX3_seek_33 : decode cX3_seek 33 = .ok (.iconst 1, 1) := by decide +kernel
theorem dX3_seek_34 : decode cX3_seek 34 = .ok (.istore 5, 2) := by decide +kernel
theorem dX3_seek_36 : decode cX3_seek 36 = .ok (.iload 5, 2) := by decide +kernel
theorem dX3_seek_38 : decode cX3_seek 38 = .ok (.sipush 256, 3) := by decide +kernel
theorem dX3_seek_41 : decode cX3_seek 41 = .ok (.if_icmp .ge 107, 3) := by decide +kernel
theorem dX3_seek_44 : decode cX3_seek 44 = .ok (.iload 5, 2) := by decide +kernel
theorem dX3_seek_46 : decode cX3_seek 46 = .ok (.iload 4, 2) := by decide +kernel
theorem dX3_seek_48 : decode cX3_seek 48 = .ok (.iconst (-1), 1) := by decide +kernel
theorem dX3_seek_49 : decode cX3_seek 49 = .ok (.ixor, 1) := by decide +kernel
theorem dX3_seek_50 : decode cX3_seek 50 = .ok (.iand, 1) := by decide +kernel
theorem dX3_seek_51 : decode cX3_seek 51 = .ok (.ifCond .eq 6, 3) := by decide +kernel
theorem dX3_seek_54 : decode cX3_seek 54 = .ok (.goto 88, 3) := by decide +kernel
theorem dX3_seek_57 : decode cX3_seek 57 = .ok (.aload_n 0, 1) := by decide +kernel
theorem dX3_seek_58 : decode cX3_seek 58 = .ok (.getfield 9, 3) := by decide +kernel
theorem dX3_seek_61 : decode cX3_seek 61 = .ok (.iload 5, 2) := by decide +kernel
theorem dX3_seek_63 : decode cX3_seek 63 = .ok (.invokestatic 48, 3) := by decide +kernel
theorem dX3_seek_66 : decode cX3_seek 66 = .ok (.istore 6, 2) := by decide +kernel
theorem dX3_seek_68 : decode cX3_seek 68 = .ok (.aload_n 0, 1) := by decide +kernel
theorem dX3_seek_69 : decode cX3_seek 69 = .ok (.getfield 15, 3) := by decide +kernel
theorem dX3_seek_72 : decode cX3_seek 72 = .ok (.iload 5, 2) := by decide +kernel
theorem dX3_seek_74 : decode cX3_seek 74 = .ok (.invokestatic 48, 3) := by decide +kernel
theorem dX3_seek_77 : decode cX3_seek 77 = .ok (.istore 7, 2) := by decide +kernel
theorem dX3_seek_79 : decode cX3_seek 79 = .ok (.iload 7, 2) := by decide +kernel
theorem dX3_seek_81 : decode cX3_seek 81 = .ok (.aload_n 0, 1) := by decide +kernel
theorem dX3_seek_82 : decode cX3_seek 82 = .ok (.getfield 42, 3) := by decide +kernel
theorem dX3_seek_85 : decode cX3_seek 85 = .ok (.if_icmp .gt 21, 3) := by decide +kernel
theorem dX3_seek_88 : decode cX3_seek 88 = .ok (.iload 7, 2) := by decide +kernel
theorem dX3_seek_90 : decode cX3_seek 90 = .ok (.aload_n 0, 1) := by decide +kernel
theorem dX3_seek_91 : decode cX3_seek 91 = .ok (.getfield 42, 3) := by decide +kernel
theorem dX3_seek_94 : decode cX3_seek 94 = .ok (.if_icmp .ne 16, 3) := by decide +kernel
theorem dX3_seek_97 : decode cX3_seek 97 = .ok (.iload 6, 2) := by decide +kernel
theorem dX3_seek_99 : decode cX3_seek 99 = .ok (.aload_n 0, 1) := by decide +kernel
theorem dX3_seek_100 : decode cX3_seek 100 = .ok (.getfield 45, 3) := by decide +kernel
theorem dX3_seek_103 : decode cX3_seek 103 = .ok (.if_icmp .ge 7, 3) := by decide +kernel
theorem dX3_seek_106 : decode cX3_seek 106 = .ok (.iconst 1, 1) := by decide +kernel
theorem dX3_seek_107 : decode cX3_seek 107 = .ok (.goto 4, 3) := by decide +kernel
theorem dX3_seek_110 : decode cX3_seek 110 = .ok (.iconst 0, 1) := by decide +kernel
theorem dX3_seek_111 : decode cX3_seek 111 = .ok (.istore 8, 2) := by decide +kernel
theorem dX3_seek_113 : decode cX3_seek 113 = .ok (.iload 6, 2) := by decide +kernel
theorem dX3_seek_115 : decode cX3_seek 115 = .ok (.iload_n 3, 1) := by decide +kernel
theorem dX3_seek_116 : decode cX3_seek 116 = .ok (.if_icmp .gt 26, 3) := by decide +kernel
theorem dX3_seek_119 : decode cX3_seek 119 = .ok (.iload 8, 2) := by decide +kernel
theorem dX3_seek_121 : decode cX3_seek 121 = .ok (.ifCond .eq 21, 3) := by decide +kernel
theorem dX3_seek_124 : decode cX3_seek 124 = .ok (.aload_n 0, 1) := by decide +kernel
theorem dX3_seek_125 : decode cX3_seek 125 = .ok (.iload 5, 2) := by decide +kernel
theorem dX3_seek_127 : decode cX3_seek 127 = .ok (.putfield 39, 3) := by decide +kernel
theorem dX3_seek_130 : decode cX3_seek 130 = .ok (.aload_n 0, 1) := by decide +kernel
theorem dX3_seek_131 : decode cX3_seek 131 = .ok (.iload 7, 2) := by decide +kernel
theorem dX3_seek_133 : decode cX3_seek 133 = .ok (.putfield 42, 3) := by decide +kernel
theorem dX3_seek_136 : decode cX3_seek 136 = .ok (.aload_n 0, 1) := by decide +kernel
theorem dX3_seek_137 : decode cX3_seek 137 = .ok (.iload 6, 2) := by decide +kernel
theorem dX3_seek_139 : decode cX3_seek 139 = .ok (.putfield 45, 3) := by decide +kernel
theorem dX3_seek_142 : decode cX3_seek 142 = .ok (.iinc 5 1, 3) := by decide +kernel
theorem dX3_seek_145 : decode cX3_seek 145 = .ok (.goto (-109), 3) := by decide +kernel
theorem dX3_seek_148 : decode cX3_seek 148 = .ok (.return_, 1) := by decide +kernel
theorem dX3_gatherGains_0 : decode cX3_gatherGains 0 = .ok (.iconst 0, 1) := by decide +kernel
theorem dX3_gatherGains_1 : decode cX3_gatherGains 1 = .ok (.istore_n 3, 1) := by decide +kernel
theorem dX3_gatherGains_2 : decode cX3_gatherGains 2 = .ok (.iconst 0, 1) := by decide +kernel
theorem dX3_gatherGains_3 : decode cX3_gatherGains 3 = .ok (.istore 4, 2) := by decide +kernel
theorem dX3_gatherGains_5 : decode cX3_gatherGains 5 = .ok (.iload 4, 2) := by decide +kernel
theorem dX3_gatherGains_7 : decode cX3_gatherGains 7 = .ok (.bipush 8, 2) := by decide +kernel
theorem dX3_gatherGains_9 : decode cX3_gatherGains 9 = .ok (.if_icmp .ge 17, 3) := by decide +kernel
theorem dX3_gatherGains_12 : decode cX3_gatherGains 12 = .ok (.aload_n 0, 1) := by decide +kernel
theorem dX3_gatherGains_13 : decode cX3_gatherGains 13 = .ok (.getfield 15, 3) := by decide +kernel
theorem dX3_gatherGains_16 : decode cX3_gatherGains 16 = .ok (.iload 4, 2) := by decide +kernel
theorem dX3_gatherGains_18 : decode cX3_gatherGains 18 = .ok (.iconst 0, 1) := by decide +kernel
theorem dX3_gatherGains_19 : decode cX3_gatherGains 19 = .ok (.iastore, 1) := by decide +kernel
theorem dX3_gatherGains_20 : decode cX3_gatherGains 20 = .ok (.iinc 4 1, 3) := by decide +kernel
theorem dX3_gatherGains_23 : decode cX3_gatherGains 23 = .ok (.goto (-18), 3) := by decide +kernel
theorem dX3_gatherGains_26 : decode cX3_gatherGains 26 = .ok (.iconst 0, 1) := by decide +kernel
theorem dX3_gatherGains_27 : decode cX3_gatherGains 27 = .ok (.istore 4, 2) := by decide +kernel
theorem dX3_gatherGains_29 : decode cX3_gatherGains 29 = .ok (.iload 4, 2) := by decide +kernel
theorem dX3_gatherGains_31 : decode cX3_gatherGains 31 = .ok (.aload_n 0, 1) := by decide +kernel
theorem dX3_gatherGains_32 : decode cX3_gatherGains 32 = .ok (.getfield 25, 3) := by decide +kernel
theorem dX3_gatherGains_35 : decode cX3_gatherGains 35 = .ok (.getfield 52, 3) := by decide +kernel
theorem dX3_gatherGains_38 : decode cX3_gatherGains 38 = .ok (.if_icmp .ge 72, 3) := by decide +kernel
theorem dX3_gatherGains_41 : decode cX3_gatherGains 41 = .ok (.aload_n 1, 1) := by decide +kernel
theorem dX3_gatherGains_42 : decode cX3_gatherGains 42 = .ok (.ifnull 62, 3) := by decide +kernel
theorem dX3_gatherGains_45 : decode cX3_gatherGains 45 = .ok (.iload_n 2, 1) := by decide +kernel
theorem dX3_gatherGains_46 : decode cX3_gatherGains 46 = .ok (.iload 4, 2) := by decide +kernel
theorem dX3_gatherGains_48 : decode cX3_gatherGains 48 = .ok (.invokestatic 55, 3) := by decide +kernel
theorem dX3_gatherGains_51 : decode cX3_gatherGains 51 = .ok (.ifCond .eq 53, 3) := by decide +kernel
theorem dX3_gatherGains_54 : decode cX3_gatherGains 54 = .ok (.aload_n 1, 1) := by decide +kernel
theorem dX3_gatherGains_55 : decode cX3_gatherGains 55 = .ok (.iload 4, 2) := by decide +kernel
theorem dX3_gatherGains_57 : decode cX3_gatherGains 57 = .ok (.aload_n 0, 1) := by decide +kernel
theorem dX3_gatherGains_58 : decode cX3_gatherGains 58 = .ok (.getfield 21, 3) := by decide +kernel
theorem dX3_gatherGains_61 : decode cX3_gatherGains 61 = .ok (.invokevirtual 59, 3) := by decide +kernel
theorem dX3_gatherGains_64 : decode cX3_gatherGains 64 = .ok (.aload_n 0, 1) := by decide +kernel
theorem dX3_gatherGains_65 : decode cX3_gatherGains 65 = .ok (.getfield 15, 3) := by decide +kernel
theorem dX3_gatherGains_68 : decode cX3_gatherGains 68 = .ok (.aload_n 0, 1) := by decide +kernel
theorem dX3_gatherGains_69 : decode cX3_gatherGains 69 = .ok (.getfield 25, 3) := by decide +kernel
theorem dX3_gatherGains_72 : decode cX3_gatherGains 72 = .ok (.getfield 65, 3) := by decide +kernel
theorem dX3_gatherGains_75 : decode cX3_gatherGains 75 = .ok (.iload 4, 2) := by decide +kernel
theorem dX3_gatherGains_77 : decode cX3_gatherGains 77 = .ok (.iaload, 1) := by decide +kernel
theorem dX3_gatherGains_78 : decode cX3_gatherGains 78 = .ok (.dup2, 1) := by decide +kernel
theorem dX3_gatherGains_79 : decode cX3_gatherGains 79 = .ok (.iaload, 1) := by decide +kernel
theorem dX3_gatherGains_80 : decode cX3_gatherGains 80 = .ok (.aload_n 0, 1) := by decide +kernel
theorem dX3_gatherGains_81 : decode cX3_gatherGains 81 = .ok (.getfield 21, 3) := by decide +kernel
theorem dX3_gatherGains_84 : decode cX3_gatherGains 84 = .ok (.invokevirtual 68, 3) := by decide +kernel
theorem dX3_gatherGains_87 : decode cX3_gatherGains 87 = .ok (.iadd, 1) := by decide +kernel
theorem dX3_gatherGains_88 : decode cX3_gatherGains 88 = .ok (.iastore, 1) := by decide +kernel
theorem dX3_gatherGains_89 : decode cX3_gatherGains 89 = .ok (.iload_n 3, 1) := by decide +kernel
theorem dX3_gatherGains_90 : decode cX3_gatherGains 90 = .ok (.iconst 1, 1) := by decide +kernel
theorem dX3_gatherGains_91 : decode cX3_gatherGains 91 = .ok (.aload_n 0, 1) := by decide +kernel
theorem dX3_gatherGains_92 : decode cX3_gatherGains 92 = .ok (.getfield 25, 3) := by decide +kernel
theorem dX3_gatherGains_95 : decode cX3_gatherGains 95 = .ok (.getfield 65, 3) := by decide +kernel
theorem dX3_gatherGains_98 : decode cX3_gatherGains 98 = .ok (.iload 4, 2) := by decide +kernel
theorem dX3_gatherGains_100 : decode cX3_gatherGains 100 = .ok (.iaload, 1) := by decide +kernel
theorem dX3_gatherGains_101 : decode cX3_gatherGains 101 = .ok (.ishl, 1) := by decide +kernel
theorem dX3_gatherGains_102 : decode cX3_gatherGains 102 = .ok (.ior, 1) := by decide +kernel
theorem dX3_gatherGains_103 : decode cX3_gatherGains 103 = .ok (.istore_n 3, 1) := by decide +kernel
theorem dX3_gatherGains_104 : decode cX3_gatherGains 104 = .ok (.iinc 4 1, 3) := by decide +kernel
theorem dX3_gatherGains_107 : decode cX3_gatherGains 107 = .ok (.goto (-78), 3) := by decide +kernel
theorem dX3_gatherGains_110 : decode cX3_gatherGains 110 = .ok (.iload_n 3, 1) := by decide +kernel
theorem dX3_gatherGains_111 : decode cX3_gatherGains 111 = .ok (.ireturn, 1) := by decide +kernel
theorem dX3_together_0 : decode cX3_together 0 = .ok (.iconst 0, 1) := by decide +kernel
theorem dX3_together_1 : decode cX3_together 1 = .ok (.istore_n 2, 1) := by decide +kernel
theorem dX3_together_2 : decode cX3_together 2 = .ok (.iconst 0, 1) := by decide +kernel
theorem dX3_together_3 : decode cX3_together 3 = .ok (.istore_n 3, 1) := by decide +kernel
theorem dX3_together_4 : decode cX3_together 4 = .ok (.iload_n 3, 1) := by decide +kernel
theorem dX3_together_5 : decode cX3_together 5 = .ok (.bipush 8, 2) := by decide +kernel
theorem dX3_together_7 : decode cX3_together 7 = .ok (.if_icmp .ge 23, 3) := by decide +kernel
theorem dX3_together_10 : decode cX3_together 10 = .ok (.iload_n 1, 1) := by decide +kernel
theorem dX3_together_11 : decode cX3_together 11 = .ok (.iload_n 3, 1) := by decide +kernel
theorem dX3_together_12 : decode cX3_together 12 = .ok (.invokestatic 55, 3) := by decide +kernel
theorem dX3_together_15 : decode cX3_together 15 = .ok (.ifCond .eq 9, 3) := by decide +kernel
theorem dX3_together_18 : decode cX3_together 18 = .ok (.iload_n 2, 1) := by decide +kernel
theorem dX3_together_19 : decode cX3_together 19 = .ok (.aload_n 0, 1) := by decide +kernel
theorem dX3_together_20 : decode cX3_together 20 = .ok (.iload_n 3, 1) := by decide +kernel
theorem dX3_together_21 : decode cX3_together 21 = .ok (.iaload, 1) := by decide +kernel
theorem dX3_together_22 : decode cX3_together 22 = .ok (.iadd, 1) := by decide +kernel
theorem dX3_together_23 : decode cX3_together 23 = .ok (.istore_n 2, 1) := by decide +kernel
theorem dX3_together_24 : decode cX3_together 24 = .ok (.iinc 3 1, 3) := by decide +kernel
theorem dX3_together_27 : decode cX3_together 27 = .ok (.goto (-23), 3) := by decide +kernel
theorem dX3_together_30 : decode cX3_together 30 = .ok (.iload_n 2, 1) := by decide +kernel
theorem dX3_together_31 : decode cX3_together 31 = .ok (.ireturn, 1) := by decide +kernel
theorem dX4_init_0 : decode cX4_init 0 = .ok (.aload_n 0, 1) := by decide +kernel
theorem dX4_init_1 : decode cX4_init 1 = .ok (.aload_n 1, 1) := by decide +kernel
theorem dX4_init_2 : decode cX4_init 2 = .ok (.aload_n 2, 1) := by decide +kernel
theorem dX4_init_3 : decode cX4_init 3 = .ok (.invokespecial 3, 3) := by decide +kernel
theorem dX4_init_6 : decode cX4_init 6 = .ok (.aload_n 0, 1) := by decide +kernel
theorem dX4_init_7 : decode cX4_init 7 = .ok (.iload_n 3, 1) := by decide +kernel
theorem dX4_init_8 : decode cX4_init 8 = .ok (.putfield 9, 3) := by decide +kernel
theorem dX4_init_11 : decode cX4_init 11 = .ok (.return_, 1) := by decide +kernel
theorem dX4_canBe_0 : decode cX4_canBe 0 = .ok (.aload_n 0, 1) := by decide +kernel
theorem dX4_canBe_1 : decode cX4_canBe 1 = .ok (.getfield 9, 3) := by decide +kernel
theorem dX4_canBe_4 : decode cX4_canBe 4 = .ok (.ifCond .eq 19, 3) := by decide +kernel
theorem dX4_canBe_7 : decode cX4_canBe 7 = .ok (.aload_n 0, 1) := by decide +kernel
theorem dX4_canBe_8 : decode cX4_canBe 8 = .ok (.invokevirtual 15, 3) := by decide +kernel
theorem dX4_canBe_11 : decode cX4_canBe 11 = .ok (.iconst 1, 1) := by decide +kernel
theorem dX4_canBe_12 : decode cX4_canBe 12 = .ok (.if_icmp .lt 7, 3) := by decide +kernel
theorem dX4_canBe_15 : decode cX4_canBe 15 = .ok (.iconst 1, 1) := by decide +kernel
theorem dX4_canBe_16 : decode cX4_canBe 16 = .ok (.goto 19, 3) := by decide +kernel
theorem dX4_canBe_19 : decode cX4_canBe 19 = .ok (.iconst 0, 1) := by decide +kernel
theorem dX4_canBe_20 : decode cX4_canBe 20 = .ok (.goto 15, 3) := by decide +kernel
theorem dX4_canBe_23 : decode cX4_canBe 23 = .ok (.aload_n 0, 1) := by decide +kernel
theorem dX4_canBe_24 : decode cX4_canBe 24 = .ok (.getfield 19, 3) := by decide +kernel
theorem dX4_canBe_27 : decode cX4_canBe 27 = .ok (.iconst 0, 1) := by decide +kernel
theorem dX4_canBe_28 : decode cX4_canBe 28 = .ok (.iaload, 1) := by decide +kernel
theorem dX4_canBe_29 : decode cX4_canBe 29 = .ok (.iconst 1, 1) := by decide +kernel
theorem dX4_canBe_30 : decode cX4_canBe 30 = .ok (.bipush 30, 2) := by decide +kernel
theorem dX4_canBe_32 : decode cX4_canBe 32 = .ok (.invokestatic 23, 3) := by decide +kernel
theorem dX4_canBe_35 : decode cX4_canBe 35 = .ok (.ireturn, 1) := by decide +kernel
theorem dX4_pointCount_0 : decode cX4_pointCount 0 = .ok (.aload_n 0, 1) := by decide +kernel
theorem dX4_pointCount_1 : decode cX4_pointCount 1 = .ok (.getfield 9, 3) := by decide +kernel
theorem dX4_pointCount_4 : decode cX4_pointCount 4 = .ok (.ifCond .eq 10, 3) := by decide +kernel
theorem dX4_pointCount_7 : decode cX4_pointCount 7 = .ok (.aload_n 0, 1) := by decide +kernel
theorem dX4_pointCount_8 : decode cX4_pointCount 8 = .ok (.invokevirtual 27, 3) := by decide +kernel
theorem dX4_pointCount_11 : decode cX4_pointCount 11 = .ok (.goto 9, 3) := by decide +kernel
theorem dX4_pointCount_14 : decode cX4_pointCount 14 = .ok (.aload_n 0, 1) := by decide +kernel
theorem dX4_pointCount_15 : decode cX4_pointCount 15 = .ok (.getfield 19, 3) := by decide +kernel
theorem dX4_pointCount_18 : decode cX4_pointCount 18 = .ok (.iconst 0, 1) := by decide +kernel
theorem dX4_pointCount_19 : decode cX4_pointCount 19 = .ok (.iaload, 1) := by decide +kernel
theorem dX4_pointCount_20 : decode cX4_pointCount 20 = .ok (.ireturn, 1) := by decide +kernel
theorem dX4_lengthOfStep_0 : decode cX4_lengthOfStep 0 = .ok (.aload_n 0, 1) := by decide +kernel
theorem dX4_lengthOfStep_1 : decode cX4_lengthOfStep 1 = .ok (.getfield 19, 3) := by decide +kernel
theorem dX4_lengthOfStep_4 : decode cX4_lengthOfStep 4 = .ok (.iconst 0, 1) := by decide +kernel
theorem dX4_lengthOfStep_5 : decode cX4_lengthOfStep 5 = .ok (.iaload, 1) := by decide +kernel
theorem dX4_lengthOfStep_6 : decode cX4_lengthOfStep 6 = .ok (.iconst 1, 1) := by decide +kernel
theorem dX4_lengthOfStep_7 : decode cX4_lengthOfStep 7 = .ok (.if_icmp .ge 7, 3) := by decide +kernel
theorem dX4_lengthOfStep_10 : decode cX4_lengthOfStep 10 = .ok (.iconst 0, 1) := by decide +kernel
theorem dX4_lengthOfStep_11 : decode cX4_lengthOfStep 11 = .ok (.goto 17, 3) := by decide +kernel
theorem dX4_lengthOfStep_14 : decode cX4_lengthOfStep 14 = .ok (.aload_n 0, 1) := by decide +kernel
theorem dX4_lengthOfStep_15 : decode cX4_lengthOfStep 15 = .ok (.getfield 30, 3) := by decide +kernel
theorem dX4_lengthOfStep_18 : decode cX4_lengthOfStep 18 = .ok (.getfield 34, 3) := by decide +kernel
theorem dX4_lengthOfStep_21 : decode cX4_lengthOfStep 21 = .ok (.aload_n 0, 1) := by decide +kernel
theorem dX4_lengthOfStep_22 : decode cX4_lengthOfStep 22 = .ok (.getfield 19, 3) := by decide +kernel
theorem dX4_lengthOfStep_25 : decode cX4_lengthOfStep 25 = .ok (.iconst 0, 1) := by decide +kernel
theorem dX4_lengthOfStep_26 : decode cX4_lengthOfStep 26 = .ok (.iaload, 1) := by decide +kernel
theorem dX4_lengthOfStep_27 : decode cX4_lengthOfStep 27 = .ok (.idiv, 1) := by decide +kernel
theorem dX4_lengthOfStep_28 : decode cX4_lengthOfStep 28 = .ok (.ireturn, 1) := by decide +kernel
theorem dX4_drawAt_0 : decode cX4_drawAt 0 = .ok (.aload_n 0, 1) := by decide +kernel
theorem dX4_drawAt_1 : decode cX4_drawAt 1 = .ok (.getfield 9, 3) := by decide +kernel
theorem dX4_drawAt_4 : decode cX4_drawAt 4 = .ok (.ifCond .eq 11, 3) := by decide +kernel
theorem dX4_drawAt_7 : decode cX4_drawAt 7 = .ok (.aload_n 0, 1) := by decide +kernel
theorem dX4_drawAt_8 : decode cX4_drawAt 8 = .ok (.iload_n 1, 1) := by decide +kernel
theorem dX4_drawAt_9 : decode cX4_drawAt 9 = .ok (.invokevirtual 40, 3) := by decide +kernel
theorem dX4_drawAt_12 : decode cX4_drawAt 12 = .ok (.goto 8, 3) := by decide +kernel
theorem dX4_drawAt_15 : decode cX4_drawAt 15 = .ok (.aload_n 0, 1) := by decide +kernel
theorem dX4_drawAt_16 : decode cX4_drawAt 16 = .ok (.iload_n 1, 1) := by decide +kernel
theorem dX4_drawAt_17 : decode cX4_drawAt 17 = .ok (.invokevirtual 44, 3) := by decide +kernel
theorem dX4_drawAt_20 : decode cX4_drawAt 20 = .ok (.ireturn, 1) := by decide +kernel
theorem dX4_drawRoundList_0 : decode cX4_drawRoundList 0 = .ok (.iconst 0, 1) := by decide +kernel
theorem dX4_drawRoundList_1 : decode cX4_drawRoundList 1 = .ok (.istore_n 2, 1) := by decide +kernel
theorem dX4_drawRoundList_2 : decode cX4_drawRoundList 2 = .ok (.iconst 1, 1) := by decide +kernel
theorem dX4_drawRoundList_3 : decode cX4_drawRoundList 3 = .ok (.aload_n 0, 1) := by decide +kernel
theorem dX4_drawRoundList_4 : decode cX4_drawRoundList 4 = .ok (.getfield 19, 3) := by decide +kernel
theorem dX4_drawRoundList_7 : decode cX4_drawRoundList 7 = .ok (.iconst 0, 1) := by decide +kernel
theorem dX4_drawRoundList_8 : decode cX4_drawRoundList 8 = .ok (.iaload, 1) := by decide +kernel
theorem dX4_drawRoundList_9 : decode cX4_drawRoundList 9 = .ok (.invokestatic 47, 3) := by decide +kernel
theorem dX4_drawRoundList_12 : decode cX4_drawRoundList 12 = .ok (.istore_n 3, 1) := by decide +kernel
theorem dX4_drawRoundList_13 : decode cX4_drawRoundList 13 = .ok (.iload_n 1, 1) := by decide +kernel
theorem dX4_drawRoundList_14 : decode cX4_drawRoundList 14 = .ok (.istore 4, 2) := by decide +kernel
theorem dX4_drawRoundList_16 : decode cX4_drawRoundList 16 = .ok (.iload 4, 2) := by decide +kernel
theorem dX4_drawRoundList_18 : decode cX4_drawRoundList 18 = .ok (.aload_n 0, 1) := by decide +kernel
theorem dX4_drawRoundList_19 : decode cX4_drawRoundList 19 = .ok (.getfield 30, 3) := by decide +kernel
theorem dX4_drawRoundList_22 : decode cX4_drawRoundList 22 = .ok (.getfield 53, 3) := by decide +kernel
theorem dX4_drawRoundList_25 : decode cX4_drawRoundList 25 = .ok (.if_icmp .ge 19, 3) := by decide +kernel
theorem dX4_drawRoundList_28 : decode cX4_drawRoundList 28 = .ok (.iload_n 2, 1) := by decide +kernel
theorem dX4_drawRoundList_29 : decode cX4_drawRoundList 29 = .ok (.iconst 1, 1) := by decide +kernel
theorem dX4_drawRoundList_30 : decode cX4_drawRoundList 30 = .ok (.iload 4, 2) := by decide +kernel
theorem dX4_drawRoundList_32 : decode cX4_drawRoundList 32 = .ok (.ishl, 1) := by decide +kernel
theorem dX4_drawRoundList_33 : decode cX4_drawRoundList 33 = .ok (.ior, 1) := by decide +kernel
theorem dX4_drawRoundList_34 : decode cX4_drawRoundList 34 = .ok (.istore_n 2, 1) := by decide +kernel
theorem dX4_drawRoundList_35 : decode cX4_drawRoundList 35 = .ok (.iload 4, 2) := by decide +kernel
theorem dX4_drawRoundList_37 : decode cX4_drawRoundList 37 = .ok (.iload_n 3, 1) := by decide +kernel
theorem dX4_drawRoundList_38 : decode cX4_drawRoundList 38 = .ok (.iadd, 1) := by decide +kernel
theorem dX4_drawRoundList_39 : decode cX4_drawRoundList 39 = .ok (.istore 4, 2) := by decide +kernel
theorem dX4_drawRoundList_41 : decode cX4_drawRoundList 41 = .ok (.goto (-25), 3) := by decide +kernel
theorem dX4_drawRoundList_44 : decode cX4_drawRoundList 44 = .ok (.iload_n 2, 1) := by decide +kernel
theorem dX4_drawRoundList_45 : decode cX4_drawRoundList 45 = .ok (.ireturn, 1) := by decide +kernel
theorem dX4_drawAlongSizes_0 : decode cX4_drawAlongSizes 0 = .ok (.aload_n 0, 1) := by decide +kernel
theorem dX4_drawAlongSizes_1 : decode cX4_drawAlongSizes 1 = .ok (.invokevirtual 27, 3) := by decide +kernel
theorem dX4_drawAlongSizes_4 : decode cX4_drawAlongSizes 4 = .ok (.istore_n 2, 1) := by decide +kernel
theorem dX4_drawAlongSizes_5 : decode cX4_drawAlongSizes 5 = .ok (.iconst 0, 1) := by decide +kernel
theorem dX4_drawAlongSizes_6 : decode cX4_drawAlongSizes 6 = .ok (.istore_n 3, 1) := by decide +kernel
theorem dX4_drawAlongSizes_7 : decode cX4_drawAlongSizes 7 = .ok (.iconst 0, 1) := by decide +kernel
theorem dX4_drawAlongSizes_8 : decode cX4_drawAlongSizes 8 = .ok (.istore 4, 2) := by decide +kernel
theorem dX4_drawAlongSizes_10 : decode cX4_drawAlongSizes 10 = .ok (.iload 4, 2) := by decide +kernel
theorem dX4_drawAlongSizes_12 : decode cX4_drawAlongSizes 12 = .ok (.aload_n 0, 1) := by decide +kernel
theorem dX4_drawAlongSizes_13 : decode cX4_drawAlongSizes 13 = .ok (.getfield 19, 3) := by decide +kernel
theorem dX4_drawAlongSizes_16 : decode cX4_drawAlongSizes 16 = .ok (.iconst 0, 1) := by decide +kernel
theorem dX4_drawAlongSizes_17 : decode cX4_drawAlongSizes 17 = .ok (.iaload, 1) := by decide +kernel
theorem dX4_drawAlongSizes_18 : decode cX4_drawAlongSizes 18 = .ok (.if_icmp .ge 50, 3) := by decide +kernel
theorem dX4_drawAlongSizes_21 : decode cX4_drawAlongSizes 21 = .ok (.iload_n 1, 1) := by decide +kernel
theorem dX4_drawAlongSizes_22 : decode cX4_drawAlongSizes 22 = .ok (.iload 4, 2) := by decide +kernel
theorem dX4_drawAlongSizes_24 : decode cX4_drawAlongSizes 24 = .ok (.iload_n 2, 1) := by decide +kernel
theorem dX4_drawAlongSizes_25 : decode cX4_drawAlongSizes 25 = .ok (.imul, 1) := by decide +kernel
theorem dX4_drawAlongSizes_26 : decode cX4_drawAlongSizes 26 = .ok (.iadd, 1) := by decide +kernel
theorem dX4_drawAlongSizes_27 : decode cX4_drawAlongSizes 27 = .ok (.istore 5, 2) := by decide +kernel
theorem dX4_drawAlongSizes_29 : decode cX4_drawAlongSizes 29 = .ok (.iload 5, 2) := by decide +kernel
theorem dX4_drawAlongSizes_31 : decode cX4_drawAlongSizes 31 = .ok (.iconst 0, 1) := by decide +kernel
theorem dX4_drawAlongSizes_32 : decode cX4_drawAlongSizes 32 = .ok (.aload_n 0, 1) := by decide +kernel
theorem dX4_drawAlongSizes_33 : decode cX4_drawAlongSizes 33 = .ok (.getfield 30, 3) := by decide +kernel
theorem dX4_drawAlongSizes_36 : decode cX4_drawAlongSizes 36 = .ok (.getfield 34, 3) := by decide +kernel
theorem dX4_drawAlongSizes_39 : decode cX4_drawAlongSizes 39 = .ok (.iconst 1, 1) := by decide +kernel
theorem dX4_drawAlongSizes_40 : decode cX4_drawAlongSizes 40 = .ok (.isub, 1) := by decide +kernel
theorem dX4_drawAlongSizes_41 : decode cX4_drawAlongSizes 41 = .ok (.invokestatic 23, 3) := by decide +kernel
theorem dX4_drawAlongSizes_44 : decode cX4_drawAlongSizes 44 = .ok (.ifCond .eq 18, 3) := by decide +kernel
theorem dX4_drawAlongSizes_47 : decode cX4_drawAlongSizes 47 = .ok (.iload_n 3, 1) := by decide +kernel
theorem dX4_drawAlongSizes_48 : decode cX4_drawAlongSizes 48 = .ok (.iconst 1, 1) := by decide +kernel
theorem dX4_drawAlongSizes_49 : decode cX4_drawAlongSizes 49 = .ok (.aload_n 0, 1) := by decide +kernel
theorem dX4_drawAlongSizes_50 : decode cX4_drawAlongSizes 50 = .ok (.getfield 30, 3) := by decide +kernel
theorem dX4_drawAlongSizes_53 : decode cX4_drawAlongSizes 53 = .ok (.getfield 56, 3) := by decide +kernel
theorem dX4_drawAlongSizes_56 : decode cX4_drawAlongSizes 56 = .ok (.iload 5, 2) := by decide +kernel
theorem dX4_drawAlongSizes_58 : decode cX4_drawAlongSizes 58 = .ok (.iaload, 1) := by decide +kernel
theorem dX4_drawAlongSizes_59 : decode cX4_drawAlongSizes 59 = .ok (.ishl, 1) := by decide +kernel
theorem dX4_drawAlongSizes_60 : decode cX4_drawAlongSizes 60 = .ok (.ior, 1) := by decide +kernel
theorem dX4_drawAlongSizes_61 : decode cX4_drawAlongSizes 61 = .ok (.istore_n 3, 1) := by decide +kernel
theorem dX4_drawAlongSizes_62 : decode cX4_drawAlongSizes 62 = .ok (.iinc 4 1, 3) := by decide +kernel
theorem dX4_drawAlongSizes_65 : decode cX4_drawAlongSizes 65 = .ok (.goto (-55), 3) := by decide +kernel
theorem dX4_drawAlongSizes_68 : decode cX4_drawAlongSizes 68 = .ok (.iload_n 3, 1) := by decide +kernel
theorem dX4_drawAlongSizes_69 : decode cX4_drawAlongSizes 69 = .ok (.ireturn, 1) := by decide +kernel
theorem dX4_pointsWith_0 : decode cX4_pointsWith 0 = .ok (.aload_n 0, 1) := by decide +kernel
theorem dX4_pointsWith_1 : decode cX4_pointsWith 1 = .ok (.getfield 9, 3) := by decide +kernel
theorem dX4_pointsWith_4 : decode cX4_pointsWith 4 = .ok (.ifCond .ne 5, 3) := by decide +kernel
theorem dX4_pointsWith_7 : decode cX4_pointsWith 7 = .ok (.iconst 1, 1) := by decide +kernel
theorem dX4_pointsWith_8 : decode cX4_pointsWith 8 = .ok (.ireturn, 1) := by decide +kernel
theorem dX4_pointsWith_9 : decode cX4_pointsWith 9 = .ok (.aload_n 0, 1) := by decide +kernel
theorem dX4_pointsWith_10 : decode cX4_pointsWith 10 = .ok (.invokevirtual 27, 3) := by decide +kernel
theorem dX4_pointsWith_13 : decode cX4_pointsWith 13 = .ok (.istore_n 2, 1) := by decide +kernel
theorem dX4_pointsWith_14 : decode cX4_pointsWith 14 = .ok (.aload_n 0, 1) := by decide +kernel
theorem dX4_pointsWith_15 : decode cX4_pointsWith 15 = .ok (.getfield 30, 3) := by decide +kernel
theorem dX4_pointsWith_18 : decode cX4_pointsWith 18 = .ok (.getfield 59, 3) := by decide +kernel
theorem dX4_pointsWith_21 : decode cX4_pointsWith 21 = .ok (.iload_n 1, 1) := by decide +kernel
theorem dX4_pointsWith_22 : decode cX4_pointsWith 22 = .ok (.iaload, 1) := by decide +kernel
theorem dX4_pointsWith_23 : decode cX4_pointsWith 23 = .ok (.aload_n 0, 1) := by decide +kernel
theorem dX4_pointsWith_24 : decode cX4_pointsWith 24 = .ok (.getfield 30, 3) := by decide +kernel
theorem dX4_pointsWith_27 : decode cX4_pointsWith 27 = .ok (.getfield 62, 3) := by decide +kernel
theorem dX4_pointsWith_30 : decode cX4_pointsWith 30 = .ok (.iload_n 1, 1) := by decide +kernel
theorem dX4_pointsWith_31 : decode cX4_pointsWith 31 = .ok (.iaload, 1) := by decide +kernel
theorem dX4_pointsWith_32 : decode cX4_pointsWith 32 = .ok (.iadd, 1) := by decide +kernel
theorem dX4_pointsWith_33 : decode cX4_pointsWith 33 = .ok (.iload_n 2, 1) := by decide +kernel
theorem dX4_pointsWith_34 : decode cX4_pointsWith 34 = .ok (.aload_n 0, 1) := by decide +kernel
theorem dX4_pointsWith_35 : decode cX4_pointsWith 35 = .ok (.getfield 19, 3) := by decide +kernel
theorem dX4_pointsWith_38 : decode cX4_pointsWith 38 = .ok (.iconst 0, 1) := by decide +kernel
theorem dX4_pointsWith_39 : decode cX4_pointsWith 39 = .ok (.iaload, 1) := by decide +kernel
theorem dX4_pointsWith_40 : decode cX4_pointsWith 40 = .ok (.imul, 1) := by decide +kernel
theorem dX4_pointsWith_41 : decode cX4_pointsWith 41 = .ok (.invokestatic 65, 3) := by decide +kernel
theorem dX4_pointsWith_44 : decode cX4_pointsWith 44 = .ok (.istore_n 3, 1) := by decide +kernel
theorem dX4_pointsWith_45 : decode cX4_pointsWith 45 = .ok (.iconst 0, 1) := by decide +kernel
theorem dX4_pointsWith_46 : decode cX4_pointsWith 46 = .ok (.iload_n 2, 1) := by decide +kernel
theorem dX4_pointsWith_47 : decode cX4_pointsWith 47 = .ok (.iload_n 3, 1) := by decide +kernel
theorem dX4_pointsWith_48 : decode cX4_pointsWith 48 = .ok (.aload_n 0, 1) := by decide +kernel
theorem dX4_pointsWith_49 : decode cX4_pointsWith 49 = .ok (.getfield 30, 3) := by decide +kernel
theorem dX4_pointsWith_52 : decode cX4_pointsWith 52 = .ok (.getfield 59, 3) := by decide +kernel
theorem dX4_pointsWith_55 : decode cX4_pointsWith 55 = .ok (.iload_n 1, 1) := by decide +kernel
theorem dX4_pointsWith_56 : decode cX4_pointsWith 56 = .ok (.iaload, 1) := by decide +kernel
theorem dX4_pointsWith_57 : decode cX4_pointsWith 57 = .ok (.isub, 1) := by decide +kernel
theorem dX4_pointsWith_58 : decode cX4_pointsWith 58 = .ok (.invokestatic 65, 3) := by decide +kernel
theorem dX4_pointsWith_61 : decode cX4_pointsWith 61 = .ok (.invokestatic 47, 3) := by decide +kernel
theorem dX4_pointsWith_64 : decode cX4_pointsWith 64 = .ok (.ireturn, 1) := by decide +kernel
theorem dX4_countWays_0 : decode cX4_countWays 0 = .ok (.aload_n 0, 1) := by decide +kernel
theorem dX4_countWays_1 : decode cX4_countWays 1 = .ok (.invokevirtual 15, 3) := by decide +kernel
theorem dX4_countWays_4 : decode cX4_countWays 4 = .ok (.i2l, 1) := by decide +kernel
theorem dX4_countWays_5 : decode cX4_countWays 5 = .ok (.lreturn, 1) := by decide +kernel
theorem dX4_shareOfOne_0 : decode cX4_shareOfOne 0 = .ok (.aload_n 2, 1) := by decide +kernel
theorem dX4_shareOfOne_1 : decode cX4_shareOfOne 1 = .ok (.aload_n 0, 1) := by decide +kernel
theorem dX4_shareOfOne_2 : decode cX4_shareOfOne 2 = .ok (.iload_n 1, 1) := by decide +kernel
theorem dX4_shareOfOne_3 : decode cX4_shareOfOne 3 = .ok (.invokevirtual 68, 3) := by decide +kernel
theorem dX4_shareOfOne_6 : decode cX4_shareOfOne 6 = .ok (.i2l, 1) := by decide +kernel
theorem dX4_shareOfOne_7 : decode cX4_shareOfOne 7 = .ok (.aload_n 0, 1) := by decide +kernel
theorem dX4_shareOfOne_8 : decode cX4_shareOfOne 8 = .ok (.invokevirtual 15, 3) := by decide +kernel
theorem dX4_shareOfOne_11 : decode cX4_shareOfOne 11 = .ok (.i2l, 1) := by decide +kernel
theorem dX4_shareOfOne_12 : decode cX4_shareOfOne 12 = .ok (.invokevirtual 71, 3) := by decide +kernel
theorem dX4_shareOfOne_15 : decode cX4_shareOfOne 15 = .ok (.return_, 1) := by decide +kernel
theorem dX4_shareOfTwo_0 : decode cX4_shareOfTwo 0 = .ok (.aload_n 0, 1) := by decide +kernel
theorem dX4_shareOfTwo_1 : decode cX4_shareOfTwo 1 = .ok (.invokevirtual 15, 3) := by decide +kernel
theorem dX4_shareOfTwo_4 : decode cX4_shareOfTwo 4 = .ok (.istore 4, 2) := by decide +kernel
theorem dX4_shareOfTwo_6 : decode cX4_shareOfTwo 6 = .ok (.iconst 1, 1) := by decide +kernel
theorem dX4_shareOfTwo_7 : decode cX4_shareOfTwo 7 = .ok (.iload_n 1, 1) := by decide +kernel
theorem dX4_shareOfTwo_8 : decode cX4_shareOfTwo 8 = .ok (.ishl, 1) := by decide +kernel
theorem dX4_shareOfTwo_9 : decode cX4_shareOfTwo 9 = .ok (.iconst 1, 1) := by decide +kernel
theorem dX4_shareOfTwo_10 : decode cX4_shareOfTwo 10 = .ok (.iload_n 2, 1) := by decide +kernel
theorem dX4_shareOfTwo_11 : decode cX4_shareOfTwo 11 = .ok (.ishl, 1) := by decide +kernel
theorem dX4_shareOfTwo_12 : decode cX4_shareOfTwo 12 = .ok (.ior, 1) := by decide +kernel
theorem dX4_shareOfTwo_13 : decode cX4_shareOfTwo 13 = .ok (.istore 5, 2) := by decide +kernel
theorem dX4_shareOfTwo_15 : decode cX4_shareOfTwo 15 = .ok (.iconst 0, 1) := by decide +kernel
theorem dX4_shareOfTwo_16 : decode cX4_shareOfTwo 16 = .ok (.istore 6, 2) := by decide +kernel
theorem dX4_shareOfTwo_18 : decode cX4_shareOfTwo 18 = .ok (.iconst 0, 1) := by decide +kernel
theorem dX4_shareOfTwo_19 : decode cX4_shareOfTwo 19 = .ok (.istore 7, 2) := by decide +kernel
theorem dX4_shareOfTwo_21 : decode cX4_shareOfTwo 21 = .ok (.iload 7, 2) := by decide +kernel
theorem dX4_shareOfTwo_23 : decode cX4_shareOfTwo 23 = .ok (.iload 4, 2) := by decide +kernel
theorem dX4_shareOfTwo_25 : decode cX4_shareOfTwo 25 = .ok (.if_icmp .ge 26, 3) := by decide +kernel
theorem dX4_shareOfTwo_28 : decode cX4_shareOfTwo 28 = .ok (.aload_n 0, 1) := by decide +kernel
theorem dX4_shareOfTwo_29 : decode cX4_shareOfTwo 29 = .ok (.iload 7, 2) := by decide +kernel
theorem dX4_shareOfTwo_31 : decode cX4_shareOfTwo 31 = .ok (.invokevirtual 77, 3) := by decide +kernel
theorem dX4_shareOfTwo_34 : decode cX4_shareOfTwo 34 = .ok (.iload 5, 2) := by decide +kernel
theorem dX4_shareOfTwo_36 : decode cX4_shareOfTwo 36 = .ok (.iand, 1) := by decide +kernel
theorem dX4_shareOfTwo_37 : decode cX4_shareOfTwo 37 = .ok (.iload 5, 2) := by decide +kernel
theorem dX4_shareOfTwo_39 : decode cX4_shareOfTwo 39 = .ok (.if_icmp .ne 6, 3) := by decide +kernel
theorem dX4_shareOfTwo_42 : decode cX4_shareOfTwo 42 = .ok (.iinc 6 1, 3) := by decide +kernel
theorem dX4_shareOfTwo_45 : decode cX4_shareOfTwo 45 = .ok (.iinc 7 1, 3) := by decide +kernel
theorem dX4_shareOfTwo_48 : decode cX4_shareOfTwo 48 = .ok (.goto (-27), 3) := by decide +kernel
theorem dX4_shareOfTwo_51 : decode cX4_shareOfTwo 51 = .ok (.aload_n 3, 1) := by decide +kernel
theorem dX4_shareOfTwo_52 : decode cX4_shareOfTwo 52 = .ok (.iload 6, 2) := by decide +kernel
theorem dX4_shareOfTwo_54 : decode cX4_shareOfTwo 54 = .ok (.i2l, 1) := by decide +kernel
theorem dX4_shareOfTwo_55 : decode cX4_shareOfTwo 55 = .ok (.iload 4, 2) := by decide +kernel
theorem dX4_shareOfTwo_57 : decode cX4_shareOfTwo 57 = .ok (.i2l, 1) := by decide +kernel
theorem dX4_shareOfTwo_58 : decode cX4_shareOfTwo 58 = .ok (.invokevirtual 71, 3) := by decide +kernel
theorem dX4_shareOfTwo_61 : decode cX4_shareOfTwo 61 = .ok (.return_, 1) := by decide +kernel
theorem dX4_fewest_0 : decode cX4_fewest 0 = .ok (.aload_n 0, 1) := by decide +kernel
theorem dX4_fewest_1 : decode cX4_fewest 1 = .ok (.invokevirtual 15, 3) := by decide +kernel
theorem dX4_fewest_4 : decode cX4_fewest 4 = .ok (.istore_n 1, 1) := by decide +kernel
theorem dX4_fewest_5 : decode cX4_fewest 5 = .ok (.bipush 30, 2) := by decide +kernel
theorem dX4_fewest_7 : decode cX4_fewest 7 = .ok (.istore_n 2, 1) := by decide +kernel
theorem dX4_fewest_8 : decode cX4_fewest 8 = .ok (.iconst 0, 1) := by decide +kernel
theorem dX4_fewest_9 : decode cX4_fewest 9 = .ok (.istore_n 3, 1) := by decide +kernel
theorem dX4_fewest_10 : decode cX4_fewest 10 = .ok (.iload_n 3, 1) := by decide +kernel
theorem dX4_fewest_11 : decode cX4_fewest 11 = .ok (.iload_n 1, 1) := by decide +kernel
theorem dX4_fewest_12 : decode cX4_fewest 12 = .ok (.if_icmp .ge 22, 3) := by decide +kernel
theorem dX4_fewest_15 : decode cX4_fewest 15 = .ok (.iload_n 2, 1) := by decide +kernel
theorem dX4_fewest_16 : decode cX4_fewest 16 = .ok (.aload_n 0, 1) := by decide +kernel
theorem dX4_fewest_17 : decode cX4_fewest 17 = .ok (.iload_n 3, 1) := by decide +kernel
theorem dX4_fewest_18 : decode cX4_fewest 18 = .ok (.invokevirtual 77, 3) := by decide +kernel
theorem dX4_fewest_21 : decode cX4_fewest 21 = .ok (.invokestatic 80, 3) := by decide +kernel
theorem dX4_fewest_24 : decode cX4_fewest 24 = .ok (.invokestatic 65, 3) := by decide +kernel
theorem dX4_fewest_27 : decode cX4_fewest 27 = .ok (.istore_n 2, 1) := by decide +kernel
theorem dX4_fewest_28 : decode cX4_fewest 28 = .ok (.iinc 3 1, 3) := by decide +kernel
theorem dX4_fewest_31 : decode cX4_fewest 31 = .ok (.goto (-21), 3) := by decide +kernel
theorem dX4_fewest_34 : decode cX4_fewest 34 = .ok (.iload_n 2, 1) := by decide +kernel
theorem dX4_fewest_35 : decode cX4_fewest 35 = .ok (.ireturn, 1) := by decide +kernel
theorem dX4_most_0 : decode cX4_most 0 = .ok (.aload_n 0, 1) := by decide +kernel
theorem dX4_most_1 : decode cX4_most 1 = .ok (.invokevirtual 15, 3) := by decide +kernel
theorem dX4_most_4 : decode cX4_most 4 = .ok (.istore_n 1, 1) := by decide +kernel
theorem dX4_most_5 : decode cX4_most 5 = .ok (.iconst 0, 1) := by decide +kernel
theorem dX4_most_6 : decode cX4_most 6 = .ok (.istore_n 2, 1) := by decide +kernel
theorem dX4_most_7 : decode cX4_most 7 = .ok (.iconst 0, 1) := by decide +kernel
theorem dX4_most_8 : decode cX4_most 8 = .ok (.istore_n 3, 1) := by decide +kernel
theorem dX4_most_9 : decode cX4_most 9 = .ok (.iload_n 3, 1) := by decide +kernel
theorem dX4_most_10 : decode cX4_most 10 = .ok (.iload_n 1, 1) := by decide +kernel
theorem dX4_most_11 : decode cX4_most 11 = .ok (.if_icmp .ge 22, 3) := by decide +kernel
theorem dX4_most_14 : decode cX4_most 14 = .ok (.iload_n 2, 1) := by decide +kernel
theorem dX4_most_15 : decode cX4_most 15 = .ok (.aload_n 0, 1) := by decide +kernel
theorem dX4_most_16 : decode cX4_most 16 = .ok (.iload_n 3, 1) := by decide +kernel
theorem dX4_most_17 : decode cX4_most 17 = .ok (.invokevirtual 77, 3) := by decide +kernel
theorem dX4_most_20 : decode cX4_most 20 = .ok (.invokestatic 80, 3) := by decide +kernel
theorem dX4_most_23 : decode cX4_most 23 = .ok (.invokestatic 47, 3) := by decide +kernel
theorem dX4_most_26 : decode cX4_most 26 = .ok (.istore_n 2, 1) := by decide +kernel
theorem dX4_most_27 : decode cX4_most 27 = .ok (.iinc 3 1, 3) := by decide +kernel
theorem dX4_most_30 : decode cX4_most 30 = .ok (.goto (-21), 3) := by decide +kernel
theorem dX4_most_33 : decode cX4_most 33 = .ok (.iload_n 2, 1) := by decide +kernel
theorem dX4_most_34 : decode cX4_most 34 = .ok (.ireturn, 1) := by decide +kernel
theorem dX4_canMake_0 : decode cX4_canMake 0 = .ok (.aload_n 0, 1) := by decide +kernel
theorem dX4_canMake_1 : decode cX4_canMake 1 = .ok (.invokevirtual 15, 3) := by decide +kernel
theorem dX4_canMake_4 : decode cX4_canMake 4 = .ok (.istore_n 2, 1) := by decide +kernel
theorem dX4_canMake_5 : decode cX4_canMake 5 = .ok (.iconst 0, 1) := by decide +kernel
theorem dX4_canMake_6 : decode cX4_canMake 6 = .ok (.istore_n 3, 1) := by decide +kernel
theorem dX4_canMake_7 : decode cX4_canMake 7 = .ok (.iload_n 3, 1) := by decide +kernel
theorem dX4_canMake_8 : decode cX4_canMake 8 = .ok (.iload_n 2, 1) := by decide +kernel
theorem dX4_canMake_9 : decode cX4_canMake 9 = .ok (.if_icmp .ge 20, 3) := by decide +kernel
theorem dX4_canMake_12 : decode cX4_canMake 12 = .ok (.aload_n 0, 1) := by decide +kernel
theorem dX4_canMake_13 : decode cX4_canMake 13 = .ok (.iload_n 3, 1) := by decide +kernel
theorem dX4_canMake_14 : decode cX4_canMake 14 = .ok (.invokevirtual 77, 3) := by decide +kernel
theorem dX4_canMake_17 : decode cX4_canMake 17 = .ok (.iload_n 1, 1) := by decide +kernel
theorem dX4_canMake_18 : decode cX4_canMake 18 = .ok (.if_icmp .ne 5, 3) := by decide +kernel
theorem dX4_canMake_21 : decode cX4_canMake 21 = .ok (.iconst 1, 1) := by decide +kernel
theorem dX4_canMake_22 : decode cX4_canMake 22 = .ok (.ireturn, 1) := by decide +kernel
theorem dX4_canMake_23 : decode cX4_canMake 23 = .ok (.iinc 3 1, 3) := by decide +kernel
theorem dX4_canMake_26 : decode cX4_canMake 26 = .ok (.goto (-19), 3) := by decide +kernel
theorem dX4_canMake_29 : decode cX4_canMake 29 = .ok (.iconst 0, 1) := by decide +kernel
theorem dX4_canMake_30 : decode cX4_canMake 30 = .ok (.ireturn, 1) := by decide +kernel
theorem dX4_drawByLots_0 : decode cX4_drawByLots 0 = .ok (.aload_n 0, 1) := by decide +kernel
theorem dX4_drawByLots_1 : decode cX4_drawByLots 1 = .ok (.aload_n 0, 1) := by decide +kernel
theorem dX4_drawByLots_2 : decode cX4_drawByLots 2 = .ok (.aload_n 0, 1) := by decide +kernel
theorem dX4_drawByLots_3 : decode cX4_drawByLots 3 = .ok (.invokevirtual 15, 3) := by decide +kernel
theorem dX4_drawByLots_6 : decode cX4_drawByLots 6 = .ok (.invokevirtual 85, 3) := by decide +kernel
theorem dX4_drawByLots_9 : decode cX4_drawByLots 9 = .ok (.invokevirtual 77, 3) := by decide +kernel
theorem dX4_drawByLots_12 : decode cX4_drawByLots 12 = .ok (.ireturn, 1) := by decide +kernel
theorem dX5_init_0 : decode cX5_init 0 = .ok (.aload_n 0, 1) := by decide +kernel
theorem dX5_init_1 : decode cX5_init 1 = .ok (.invokespecial 3, 3) := by decide +kernel
theorem dX5_init_4 : decode cX5_init 4 = .ok (.aload_n 0, 1) := by decide +kernel
theorem dX5_init_5 : decode cX5_init 5 = .ok (.bipush 20, 2) := by decide +kernel
theorem dX5_init_7 : decode cX5_init 7 = .ok (.newarray .int, 2) := by decide +kernel
theorem dX5_init_9 : decode cX5_init 9 = .ok (.putfield 9, 3) := by decide +kernel
theorem dX5_init_12 : decode cX5_init 12 = .ok (.aload_n 0, 1) := by decide +kernel
theorem dX5_init_13 : decode cX5_init 13 = .ok (.iconst 4, 1) := by decide +kernel
theorem dX5_init_14 : decode cX5_init 14 = .ok (.newarray .int, 2) := by decide +kernel
theorem dX5_init_16 : decode cX5_init 16 = .ok (.putfield 15, 3) := by decide +kernel
theorem dX5_init_19 : decode cX5_init 19 = .ok (.aload_n 0, 1) := by decide +kernel
theorem dX5_init_20 : decode cX5_init 20 = .ok (.new 18, 3) := by decide +kernel
theorem dX5_init_23 : decode cX5_init 23 = .ok (.dup, 1) := by decide +kernel
theorem dX5_init_24 : decode cX5_init 24 = .ok (.aload_n 1, 1) := by decide +kernel
theorem dX5_init_25 : decode cX5_init 25 = .ok (.aload_n 0, 1) := by decide +kernel
theorem dX5_init_26 : decode cX5_init 26 = .ok (.getfield 15, 3) := by decide +kernel
theorem dX5_init_29 : decode cX5_init 29 = .ok (.iconst 0, 1) := by decide +kernel
theorem dX5_init_30 : decode cX5_init 30 = .ok (.invokespecial 20, 3) := by decide +kernel
theorem dX5_init_33 : decode cX5_init 33 = .ok (.putfield 23, 3) := by decide +kernel
theorem dX5_init_36 : decode cX5_init 36 = .ok (.aload_n 0, 1) := by decide +kernel
theorem dX5_init_37 : decode cX5_init 37 = .ok (.new 18, 3) := by decide +kernel
theorem dX5_init_40 : decode cX5_init 40 = .ok (.dup, 1) := by decide +kernel
theorem dX5_init_41 : decode cX5_init 41 = .ok (.aload_n 1, 1) := by decide +kernel
theorem dX5_init_42 : decode cX5_init 42 = .ok (.aload_n 0, 1) := by decide +kernel
theorem dX5_init_43 : decode cX5_init 43 = .ok (.getfield 15, 3) := by decide +kernel
theorem dX5_init_46 : decode cX5_init 46 = .ok (.iconst 1, 1) := by decide +kernel
theorem dX5_init_47 : decode cX5_init 47 = .ok (.invokespecial 20, 3) := by decide +kernel
theorem dX5_init_50 : decode cX5_init 50 = .ok (.putfield 27, 3) := by decide +kernel
theorem dX5_init_53 : decode cX5_init 53 = .ok (.aload_n 0, 1) := by decide +kernel
theorem dX5_init_54 : decode cX5_init 54 = .ok (.new 30, 3) := by decide +kernel
theorem dX5_init_57 : decode cX5_init 57 = .ok (.dup, 1) := by decide +kernel
theorem dX5_init_58 : decode cX5_init 58 = .ok (.aload_n 1, 1) := by decide +kernel
theorem dX5_init_59 : decode cX5_init 59 = .ok (.aload_n 0, 1) := by decide +kernel
theorem dX5_init_60 : decode cX5_init 60 = .ok (.getfield 15, 3) := by decide +kernel
theorem dX5_init_63 : decode cX5_init 63 = .ok (.iconst 0, 1) := by decide +kernel
theorem dX5_init_64 : decode cX5_init 64 = .ok (.invokespecial 32, 3) := by decide +kernel
theorem dX5_init_67 : decode cX5_init 67 = .ok (.putfield 33, 3) := by decide +kernel
theorem dX5_init_70 : decode cX5_init 70 = .ok (.aload_n 0, 1) := by decide +kernel
theorem dX5_init_71 : decode cX5_init 71 = .ok (.new 30, 3) := by decide +kernel
theorem dX5_init_74 : decode cX5_init 74 = .ok (.dup, 1) := by decide +kernel
theorem dX5_init_75 : decode cX5_init 75 = .ok (.aload_n 1, 1) := by decide +kernel
theorem dX5_init_76 : decode cX5_init 76 = .ok (.aload_n 0, 1) := by decide +kernel
theorem dX5_init_77 : decode cX5_init 77 = .ok (.getfield 15, 3) := by decide +kernel
theorem dX5_init_80 : decode cX5_init 80 = .ok (.iconst 1, 1) := by decide +kernel
theorem dX5_init_81 : decode cX5_init 81 = .ok (.invokespecial 32, 3) := by decide +kernel
theorem dX5_init_84 : decode cX5_init 84 = .ok (.putfield 36, 3) := by decide +kernel
theorem dX5_init_87 : decode cX5_init 87 = .ok (.aload_n 0, 1) := by decide +kernel
theorem dX5_init_88 : decode cX5_init 88 = .ok (.new 39, 3) := by decide +kernel
theorem dX5_init_91 : decode cX5_init 91 = .ok (.dup, 1) := by decide +kernel
theorem dX5_init_92 : decode cX5_init 92 = .ok (.aload_n 1, 1) := by decide +kernel
theorem dX5_init_93 : decode cX5_init 93 = .ok (.aload_n 0, 1) := by decide +kernel
theorem dX5_init_94 : decode cX5_init 94 = .ok (.getfield 15, 3) := by decide +kernel
theorem dX5_init_97 : decode cX5_init 97 = .ok (.invokespecial 41, 3) := by decide +kernel
theorem dX5_init_100 : decode cX5_init 100 = .ok (.putfield 44, 3) := by decide +kernel
theorem dX5_init_103 : decode cX5_init 103 = .ok (.return_, 1) := by decide +kernel
theorem dX5_append_0 : decode cX5_append 0 = .ok (.aload_n 0, 1) := by decide +kernel
theorem dX5_append_1 : decode cX5_append 1 = .ok (.getfield 47, 3) := by decide +kernel
theorem dX5_append_4 : decode cX5_append 4 = .ok (.bipush 20, 2) := by decide +kernel
theorem dX5_append_6 : decode cX5_append 6 = .ok (.if_icmp .lt 6, 3) := by decide +kernel
theorem dX5_append_9 : decode cX5_append 9 = .ok (.bipush (-4), 2) := by decide +kernel
theorem dX5_append_11 : decode cX5_append 11 = .ok (.ireturn, 1) := by decide +kernel
theorem dX5_append_12 : decode cX5_append 12 = .ok (.aload_n 0, 1) := by decide +kernel
theorem dX5_append_13 : decode cX5_append 13 = .ok (.getfield 9, 3) := by decide +kernel
theorem dX5_append_16 : decode cX5_append 16 = .ok (.aload_n 0, 1) := by decide +kernel
theorem dX5_append_17 : decode cX5_append 17 = .ok (.getfield 47, 3) := by decide +kernel
theorem dX5_append_20 : decode cX5_append 20 = .ok (.iload_n 1, 1) := by decide +kernel
theorem dX5_append_21 : decode cX5_append 21 = .ok (.iastore, 1) := by decide +kernel
theorem dX5_append_22 : decode cX5_append 22 = .ok (.aload_n 0, 1) := by decide +kernel
theorem dX5_append_23 : decode cX5_append 23 = .ok (.dup, 1) := by decide +kernel
theorem dX5_append_24 : decode cX5_append 24 = .ok (.getfield 47, 3) := by decide +kernel
theorem dX5_append_27 : decode cX5_append 27 = .ok (.iconst 1, 1) := by decide +kernel
theorem dX5_append_28 : decode cX5_append 28 = .ok (.iadd, 1) := by decide +kernel
theorem dX5_append_29 : decode cX5_append 29 = .ok (.putfield 47, 3) := by decide +kernel
theorem dX5_append_32 : decode cX5_append 32 = .ok (.aload_n 0, 1) := by decide +kernel
theorem dX5_append_33 : decode cX5_append 33 = .ok (.invokevirtual 51, 3) := by decide +kernel
theorem dX5_append_36 : decode cX5_append 36 = .ok (.aload_n 0, 1) := by decide +kernel
theorem dX5_append_37 : decode cX5_append 37 = .ok (.getfield 47, 3) := by decide +kernel
theorem dX5_append_40 : decode cX5_append 40 = .ok (.ireturn, 1) := by decide +kernel
theorem dX5_clear_0 : decode cX5_clear 0 = .ok (.aload_n 0, 1) := by decide +kernel
theorem dX5_clear_1 : decode cX5_clear 1 = .ok (.getfield 47, 3) := by decide +kernel
theorem dX5_clear_4 : decode cX5_clear 4 = .ok (.istore_n 1, 1) := by decide +kernel
theorem dX5_clear_5 : decode cX5_clear 5 = .ok (.aload_n 0, 1) := by decide +kernel
theorem dX5_clear_6 : decode cX5_clear 6 = .ok (.iconst 0, 1) := by decide +kernel
theorem dX5_clear_7 : decode cX5_clear 7 = .ok (.putfield 47, 3) := by decide +kernel
theorem dX5_clear_10 : decode cX5_clear 10 = .ok (.aload_n 0, 1) := by decide +kernel
theorem dX5_clear_11 : decode cX5_clear 11 = .ok (.invokevirtual 51, 3) := by decide +kernel
theorem dX5_clear_14 : decode cX5_clear 14 = .ok (.iload_n 1, 1) := by decide +kernel
theorem dX5_clear_15 : decode cX5_clear 15 = .ok (.ireturn, 1) := by decide +kernel
theorem dX5_possibleWay_0 : decode cX5_possibleWay 0 = .ok (.aload_n 0, 1) := by decide +kernel
theorem dX5_possibleWay_1 : decode cX5_possibleWay 1 = .ok (.getfield 54, 3) := by decide +kernel
theorem dX5_possibleWay_4 : decode cX5_possibleWay 4 = .ok (.ifnull 21, 3) := by decide +kernel
theorem dX5_possibleWay_7 : decode cX5_possibleWay 7 = .ok (.aload_n 0, 1) := by decide +kernel
theorem dX5_possibleWay_8 : decode cX5_possibleWay 8 = .ok (.getfield 57, 3) := by decide +kernel
theorem dX5_possibleWay_11 : decode cX5_possibleWay 11 = .ok (.iconst (-1), 1) := by decide +kernel
theorem dX5_possibleWay_12 : decode cX5_possibleWay 12 = .ok (.if_icmp .ne 13, 3) := by decide +kernel
theorem dX5_possibleWay_15 : decode cX5_possibleWay 15 = .ok (.aload_n 0, 1) := by decide +kernel
theorem dX5_possibleWay_16 : decode cX5_possibleWay 16 = .ok (.getfield 54, 3) := by decide +kernel
theorem dX5_possibleWay_19 : decode cX5_possibleWay 19 = .ok (.invokevirtual 60, 3) := by decide +kernel
theorem dX5_possibleWay_22 : decode cX5_possibleWay 22 = .ok (.ifCond .ne 5, 3) := by decide +kernel
theorem dX5_possibleWay_25 : decode cX5_possibleWay 25 = .ok (.aconst_null, 1) := by decide +kernel
theorem dX5_possibleWay_26 : decode cX5_possibleWay 26 = .ok (.areturn, 1) := by decide +kernel
theorem dX5_possibleWay_27 : decode cX5_possibleWay 27 = .ok (.aload_n 0, 1) := by decide +kernel
theorem dX5_possibleWay_28 : decode cX5_possibleWay 28 = .ok (.getfield 54, 3) := by decide +kernel
theorem dX5_possibleWay_31 : decode cX5_possibleWay 31 = .ok (.areturn, 1) := by decide +kernel
theorem dX5_understand_0 : decode cX5_understand 0 = .ok (.aload_n 0, 1) := by decide +kernel
theorem dX5_understand_1 : decode cX5_understand 1 = .ok (.iconst 0, 1) := by decide +kernel
theorem dX5_understand_2 : decode cX5_understand 2 = .ok (.invokevirtual 66, 3) := by decide +kernel
theorem dX5_understand_5 : decode cX5_understand 5 = .ok (.lookupswitch 158 #[(97, 51), (101, 94), (108, 72), (116, 136), (122, 115)], 51) := by decide +kernel
theorem dX5_understand_56 : decode cX5_understand 56 = .ok (.aload_n 0, 1) := by decide +kernel
theorem dX5_understand_57 : decode cX5_understand 57 = .ok (.aload_n 0, 1) := by decide +kernel
theorem dX5_understand_58 : decode cX5_understand 58 = .ok (.getfield 23, 3) := by decide +kernel
theorem dX5_understand_61 : decode cX5_understand 61 = .ok (.putfield 54, 3) := by decide +kernel
theorem dX5_understand_64 : decode cX5_understand 64 = .ok (.aload_n 0, 1) := by decide +kernel
theorem dX5_understand_65 : decode cX5_understand 65 = .ok (.aload_n 0, 1) := by decide +kernel
theorem dX5_understand_66 : decode cX5_understand 66 = .ok (.iconst 1, 1) := by decide +kernel
theorem dX5_understand_67 : decode cX5_understand 67 = .ok (.iconst (-1), 1) := by decide +kernel
theorem dX5_understand_68 : decode cX5_understand 68 = .ok (.invokevirtual 70, 3) := by decide +kernel
theorem dX5_understand_71 : decode cX5_understand 71 = .ok (.putfield 57, 3) := by decide +kernel
theorem dX5_understand_74 : decode cX5_understand 74 = .ok (.goto 99, 3) := by decide +kernel
theorem dX5_understand_77 : decode cX5_understand 77 = .ok (.aload_n 0, 1) := by decide +kernel
theorem dX5_understand_78 : decode cX5_understand 78 = .ok (.aload_n 0, 1) := by decide +kernel
theorem dX5_understand_79 : decode cX5_understand 79 = .ok (.getfield 27, 3) := by decide +kernel
theorem dX5_understand_82 : decode cX5_understand 82 = .ok (.putfield 54, 3) := by decide +kernel
theorem dX5_understand_85 : decode cX5_understand 85 = .ok (.aload_n 0, 1) := by decide +kernel
theorem dX5_understand_86 : decode cX5_understand 86 = .ok (.aload_n 0, 1) := by decide +kernel
theorem dX5_understand_87 : decode cX5_understand 87 = .ok (.iconst 4, 1) := by decide +kernel
theorem dX5_understand_88 : decode cX5_understand 88 = .ok (.bipush 44, 2) := by decide +kernel
theorem dX5_understand_90 : decode cX5_understand 90 = .ok (.invokevirtual 70, 3) := by decide +kernel
theorem dX5_understand_93 : decode cX5_understand 93 = .ok (.putfield 57, 3) := by decide +kernel
theorem dX5_understand_96 : decode cX5_understand 96 = .ok (.goto 77, 3) := by decide +kernel
theorem dX5_understand_99 : decode cX5_understand 99 = .ok (.aload_n 0, 1) := by decide +kernel
theorem dX5_understand_100 : decode cX5_understand 100 = .ok (.aload_n 0, 1) := by decide +kernel
theorem dX5_understand_101 : decode cX5_understand 101 = .ok (.getfield 33, 3) := by decide +kernel
theorem dX5_understand_104 : decode cX5_understand 104 = .ok (.putfield 54, 3) := by decide +kernel
theorem dX5_understand_107 : decode cX5_understand 107 = .ok (.aload_n 0, 1) := by decide +kernel
theorem dX5_understand_108 : decode cX5_understand 108 = .ok (.aload_n 0, 1) := by decide +kernel
theorem dX5_understand_109 : decode cX5_understand 109 = .ok (.iconst 1, 1) := by decide +kernel
theorem dX5_understand_110 : decode cX5_understand 110 = .ok (.iconst (-1), 1) := by decide +kernel
theorem dX5_understand_111 : decode cX5_understand 111 = .ok (.invokevirtual 70, 3) := by decide +kernel
theorem dX5_understand_114 : decode cX5_understand 114 = .ok (.putfield 57, 3) := by decide +kernel
theorem dX5_understand_117 : decode cX5_understand 117 = .ok (.goto 56, 3) := by decide +kernel
theorem dX5_understand_120 : decode cX5_understand 120 = .ok (.aload_n 0, 1) := by decide +kernel
theorem dX5_understand_121 : decode cX5_understand 121 = .ok (.aload_n 0, 1) := by decide +kernel
theorem dX5_understand_122 : decode cX5_understand 122 = .ok (.getfield 36, 3) := by decide +kernel
theorem dX5_understand_125 : decode cX5_understand 125 = .ok (.putfield 54, 3) := by decide +kernel
theorem dX5_understand_128 : decode cX5_understand 128 = .ok (.aload_n 0, 1) := by decide +kernel
theorem dX5_understand_129 : decode cX5_understand 129 = .ok (.aload_n 0, 1) := by decide +kernel
theorem dX5_understand_130 : decode cX5_understand 130 = .ok (.iconst 1, 1) := by decide +kernel
theorem dX5_understand_131 : decode cX5_understand 131 = .ok (.iconst (-1), 1) := by decide +kernel
theorem dX5_understand_132 : decode cX5_understand 132 = .ok (.invokevirtual 70, 3) := by decide +kernel
theorem dX5_understand_135 : decode cX5_understand 135 = .ok (.putfield 57, 3) := by decide +kernel
theorem dX5_understand_138 : decode cX5_understand 138 = .ok (.goto 35, 3) := by decide +kernel
theorem dX5_understand_141 : decode cX5_understand 141 = .ok (.aload_n 0, 1) := by decide +kernel
theorem dX5_understand_142 : decode cX5_understand 142 = .ok (.aload_n 0, 1) := by decide +kernel
theorem dX5_understand_143 : decode cX5_understand 143 = .ok (.getfield 44, 3) := by decide +kernel
theorem dX5_understand_146 : decode cX5_understand 146 = .ok (.putfield 54, 3) := by decide +kernel
theorem dX5_understand_149 : decode cX5_understand 149 = .ok (.aload_n 0, 1) := by decide +kernel
theorem dX5_understand_150 : decode cX5_understand 150 = .ok (.aload_n 0, 1) := by decide +kernel
theorem dX5_understand_151 : decode cX5_understand 151 = .ok (.iconst 2, 1) := by decide +kernel
theorem dX5_understand_152 : decode cX5_understand 152 = .ok (.bipush 120, 2) := by decide +kernel
theorem dX5_understand_154 : decode cX5_understand 154 = .ok (.invokevirtual 70, 3) := by decide +kernel
theorem dX5_understand_157 : decode cX5_understand 157 = .ok (.putfield 57, 3) := by decide +kernel
theorem dX5_understand_160 : decode cX5_understand 160 = .ok (.goto 13, 3) := by decide +kernel
theorem dX5_understand_163 : decode cX5_understand 163 = .ok (.aload_n 0, 1) := by decide +kernel
theorem dX5_understand_164 : decode cX5_understand 164 = .ok (.aconst_null, 1) := by decide +kernel
theorem dX5_understand_165 : decode cX5_understand 165 = .ok (.putfield 54, 3) := by decide +kernel
theorem dX5_understand_168 : decode cX5_understand 168 = .ok (.aload_n 0, 1) := by decide +kernel
theorem dX5_understand_169 : decode cX5_understand 169 = .ok (.iconst 0, 1) := by decide +kernel
theorem dX5_understand_170 : decode cX5_understand 170 = .ok (.putfield 57, 3) := by decide +kernel
theorem dX5_understand_173 : decode cX5_understand 173 = .ok (.return_, 1) := by decide +kernel
theorem dX5_faultOfNumbers_0 : decode cX5_faultOfNumbers 0 = .ok (.iconst 1, 1) := by decide +kernel
theorem dX5_faultOfNumbers_1 : decode cX5_faultOfNumbers 1 = .ok (.istore_n 3, 1) := by decide +kernel
theorem dX5_faultOfNumbers_2 : decode cX5_faultOfNumbers 2 = .ok (.iconst 0, 1) := by decide +kernel
theorem dX5_faultOfNumbers_3 : decode cX5_faultOfNumbers 3 = .ok (.istore 4, 2) := by decide +kernel
theorem dX5_faultOfNumbers_5 : decode cX5_faultOfNumbers 5 = .ok (.iload 4, 2) := by decide +kernel
theorem dX5_faultOfNumbers_7 : decode cX5_faultOfNumbers 7 = .ok (.iload_n 1, 1) := by decide +kernel
theorem dX5_faultOfNumbers_8 : decode cX5_faultOfNumbers 8 = .ok (.if_icmp .ge 103, 3) := by decide +kernel
theorem dX5_faultOfNumbers_11 : decode cX5_faultOfNumbers 11 = .ok (.iload 4, 2) := by decide +kernel
theorem dX5_faultOfNumbers_13 : decode cX5_faultOfNumbers 13 = .ok (.aload_n 0, 1) := by decide +kernel
theorem dX5_faultOfNumbers_14 : decode cX5_faultOfNumbers 14 = .ok (.getfield 15, 3) := by decide +kernel
theorem dX5_faultOfNumbers_17 : decode cX5_faultOfNumbers 17 = .ok (.arraylength, 1) := by decide +kernel
theorem dX5_faultOfNumbers_18 : decode cX5_faultOfNumbers 18 = .ok (.if_icmp .ge 93, 3) := by decide +kernel
theorem dX5_faultOfNumbers_21 : decode cX5_faultOfNumbers 21 = .ok (.iload 4, 2) := by decide +kernel
theorem dX5_faultOfNumbers_23 : decode cX5_faultOfNumbers 23 = .ok (.ifCond .le 17, 3) := by decide +kernel
theorem dX5_faultOfNumbers_26 : decode cX5_faultOfNumbers 26 = .ok (.aload_n 0, 1) := by decide +kernel
theorem dX5_faultOfNumbers_27 : decode cX5_faultOfNumbers 27 = .ok (.iload_n 3, 1) := by decide +kernel
theorem dX5_faultOfNumbers_28 : decode cX5_faultOfNumbers 28 = .ok (.invokevirtual 66, 3) := by decide +kernel
theorem dX5_faultOfNumbers_31 : decode cX5_faultOfNumbers 31 = .ok (.iload_n 2, 1) := by decide +kernel
theorem dX5_faultOfNumbers_32 : decode cX5_faultOfNumbers 32 = .ok (.if_icmp .eq 5, 3) := by decide +kernel
theorem dX5_faultOfNumbers_35 : decode cX5_faultOfNumbers 35 = .ok (.iload_n 3, 1) := by decide +kernel
theorem dX5_faultOfNumbers_36 : decode cX5_faultOfNumbers 36 = .ok (.ireturn, 1) := by decide +kernel
theorem dX5_faultOfNumbers_37 : decode cX5_faultOfNumbers 37 = .ok (.iinc 3 1, 3) := by decide +kernel
theorem dX5_faultOfNumbers_40 : decode cX5_faultOfNumbers 40 = .ok (.aload_n 0, 1) := by decide +kernel
theorem dX5_faultOfNumbers_41 : decode cX5_faultOfNumbers 41 = .ok (.iload_n 3, 1) := by decide +kernel
theorem dX5_faultOfNumbers_42 : decode cX5_faultOfNumbers 42 = .ok (.invokevirtual 74, 3) := by decide +kernel
theorem dX5_faultOfNumbers_45 : decode cX5_faultOfNumbers 45 = .ok (.ifCond .ne 5, 3) := by decide +kernel
theorem dX5_faultOfNumbers_48 : decode cX5_faultOfNumbers 48 = .ok (.iload_n 3, 1) := by decide +kernel
theorem dX5_faultOfNumbers_49 : decode cX5_faultOfNumbers 49 = .ok (.ireturn, 1) := by decide +kernel
theorem dX5_faultOfNumbers_50 : decode cX5_faultOfNumbers 50 = .ok (.aload_n 0, 1) := by decide +kernel
theorem dX5_faultOfNumbers_51 : decode cX5_faultOfNumbers 51 = .ok (.getfield 15, 3) := by decide +kernel
theorem dX5_faultOfNumbers_54 : decode cX5_faultOfNumbers 54 = .ok (.iload 4, 2) := by decide +kernel
theorem dX5_faultOfNumbers_56 : decode cX5_faultOfNumbers 56 = .ok (.aload_n 0, 1) := by decide +kernel
theorem dX5_faultOfNumbers_57 : decode cX5_faultOfNumbers 57 = .ok (.iload_n 3, 1) := by decide +kernel
theorem dX5_faultOfNumbers_58 : decode cX5_faultOfNumbers 58 = .ok (.invokevirtual 66, 3) := by decide +kernel
theorem dX5_faultOfNumbers_61 : decode cX5_faultOfNumbers 61 = .ok (.bipush 48, 2) := by decide +kernel
theorem dX5_faultOfNumbers_63 : decode cX5_faultOfNumbers 63 = .ok (.isub, 1) := by decide +kernel
theorem dX5_faultOfNumbers_64 : decode cX5_faultOfNumbers 64 = .ok (.iastore, 1) := by decide +kernel
theorem dX5_faultOfNumbers_65 : decode cX5_faultOfNumbers 65 = .ok (.iinc 3 1, 3) := by decide +kernel
theorem dX5_faultOfNumbers_68 : decode cX5_faultOfNumbers 68 = .ok (.aload_n 0, 1) := by decide +kernel
theorem dX5_faultOfNumbers_69 : decode cX5_faultOfNumbers 69 = .ok (.iload_n 3, 1) := by decide +kernel
theorem dX5_faultOfNumbers_70 : decode cX5_faultOfNumbers 70 = .ok (.invokevirtual 74, 3) := by decide +kernel
theorem dX5_faultOfNumbers_73 : decode cX5_faultOfNumbers 73 = .ok (.ifCond .eq 32, 3) := by decide +kernel
theorem dX5_faultOfNumbers_76 : decode cX5_faultOfNumbers 76 = .ok (.aload_n 0, 1) := by decide +kernel
theorem dX5_faultOfNumbers_77 : decode cX5_faultOfNumbers 77 = .ok (.getfield 15, 3) := by decide +kernel
theorem dX5_faultOfNumbers_80 : decode cX5_faultOfNumbers 80 = .ok (.iload 4, 2) := by decide +kernel
theorem dX5_faultOfNumbers_82 : decode cX5_faultOfNumbers 82 = .ok (.bipush 10, 2) := by decide +kernel
theorem dX5_faultOfNumbers_84 : decode cX5_faultOfNumbers 84 = .ok (.aload_n 0, 1) := by decide +kernel
theorem dX5_faultOfNumbers_85 : decode cX5_faultOfNumbers 85 = .ok (.getfield 15, 3) := by decide +kernel
theorem dX5_faultOfNumbers_88 : decode cX5_faultOfNumbers 88 = .ok (.iload 4, 2) := by decide +kernel
theorem dX5_faultOfNumbers_90 : decode cX5_faultOfNumbers 90 = .ok (.iaload, 1) := by decide +kernel
theorem dX5_faultOfNumbers_91 : decode cX5_faultOfNumbers 91 = .ok (.imul, 1) := by decide +kernel
theorem dX5_faultOfNumbers_92 : decode cX5_faultOfNumbers 92 = .ok (.aload_n 0, 1) := by decide +kernel
theorem dX5_faultOfNumbers_93 : decode cX5_faultOfNumbers 93 = .ok (.iload_n 3, 1) := by decide +kernel
theorem dX5_faultOfNumbers_94 : decode cX5_faultOfNumbers 94 = .ok (.invokevirtual 66, 3) := by decide +kernel
theorem dX5_faultOfNumbers_97 : decode cX5_faultOfNumbers 97 = .ok (.iadd, 1) := by decide +kernel
theorem dX5_faultOfNumbers_98 : decode cX5_faultOfNumbers 98 = .ok (.bipush 48, 2) := by decide +kernel
theorem dX5_faultOfNumbers_100 : decode cX5_faultOfNumbers 100 = .ok (.isub, 1) := by decide +kernel
theorem dX5_faultOfNumbers_101 : decode cX5_faultOfNumbers 101 = .ok (.iastore, 1) := by decide +kernel
theorem dX5_faultOfNumbers_102 : decode cX5_faultOfNumbers 102 = .ok (.iinc 3 1, 3) := by decide +kernel
theorem dX5_faultOfNumbers_105 : decode cX5_faultOfNumbers 105 = .ok (.iinc 4 1, 3) := by decide +kernel
theorem dX5_faultOfNumbers_108 : decode cX5_faultOfNumbers 108 = .ok (.goto (-103), 3) := by decide +kernel
theorem dX5_faultOfNumbers_111 : decode cX5_faultOfNumbers 111 = .ok (.iload_n 3, 1) := by decide +kernel
theorem dX5_faultOfNumbers_112 : decode cX5_faultOfNumbers 112 = .ok (.aload_n 0, 1) := by decide +kernel
theorem dX5_faultOfNumbers_113 : decode cX5_faultOfNumbers 113 = .ok (.getfield 47, 3) := by decide +kernel
theorem dX5_faultOfNumbers_116 : decode cX5_faultOfNumbers 116 = .ok (.if_icmp .ge 7, 3) := by decide +kernel
theorem dX5_faultOfNumbers_119 : decode cX5_faultOfNumbers 119 = .ok (.iload_n 3, 1) := by decide +kernel
theorem dX5_faultOfNumbers_120 : decode cX5_faultOfNumbers 120 = .ok (.goto 4, 3) := by decide +kernel
theorem dX5_faultOfNumbers_123 : decode cX5_faultOfNumbers 123 = .ok (.iconst (-1), 1) := by decide +kernel
theorem dX5_faultOfNumbers_124 : decode cX5_faultOfNumbers 124 = .ok (.ireturn, 1) := by decide +kernel
theorem dX5_byteAt_0 : decode cX5_byteAt 0 = .ok (.iload_n 1, 1) := by decide +kernel
theorem dX5_byteAt_1 : decode cX5_byteAt 1 = .ok (.iconst 0, 1) := by decide +kernel
theorem dX5_byteAt_2 : decode cX5_byteAt 2 = .ok (.aload_n 0, 1) := by decide +kernel
theorem dX5_byteAt_3 : decode cX5_byteAt 3 = .ok (.getfield 47, 3) := by decide +kernel
theorem dX5_byteAt_6 : decode cX5_byteAt 6 = .ok (.iconst 1, 1) := by decide +kernel
theorem dX5_byteAt_7 : decode cX5_byteAt 7 = .ok (.isub, 1) := by decide +kernel
theorem dX5_byteAt_8 : decode cX5_byteAt 8 = .ok (.invokestatic 78, 3) := by decide +kernel
theorem dX5_byteAt_11 : decode cX5_byteAt 11 = .ok (.ifCond .eq 12, 3) := by decide +kernel
theorem dX5_byteAt_14 : decode cX5_byteAt 14 = .ok (.aload_n 0, 1) := by decide +kernel
theorem dX5_byteAt_15 : decode cX5_byteAt 15 = .ok (.getfield 9, 3) := by decide +kernel
theorem dX5_byteAt_18 : decode cX5_byteAt 18 = .ok (.iload_n 1, 1) := by decide +kernel
theorem dX5_byteAt_19 : decode cX5_byteAt 19 = .ok (.iaload, 1) := by decide +kernel
theorem dX5_byteAt_20 : decode cX5_byteAt 20 = .ok (.goto 4, 3) := by decide +kernel
theorem dX5_byteAt_23 : decode cX5_byteAt 23 = .ok (.iconst (-1), 1) := by decide +kernel
theorem dX5_byteAt_24 : decode cX5_byteAt 24 = .ok (.ireturn, 1) := by decide +kernel
theorem dX5_isFigure_0 : decode cX5_isFigure 0 = .ok (.aload_n 0, 1) := by decide +kernel
theorem dX5_isFigure_1 : decode cX5_isFigure 1 = .ok (.iload_n 1, 1) := by decide +kernel
theorem dX5_isFigure_2 : decode cX5_isFigure 2 = .ok (.invokevirtual 66, 3) := by decide +kernel
theorem dX5_isFigure_5 : decode cX5_isFigure 5 = .ok (.bipush 48, 2) := by decide +kernel
theorem dX5_isFigure_7 : decode cX5_isFigure 7 = .ok (.bipush 57, 2) := by decide +kernel
theorem dX5_isFigure_9 : decode cX5_isFigure 9 = .ok (.invokestatic 78, 3) := by decide +kernel
theorem dX5_isFigure_12 : decode cX5_isFigure 12 = .ok (.ireturn, 1) := by decide +kernel
theorem dX6_init_0 : decode cX6_init 0 = .ok (.aload_n 0, 1) := by decide +kernel
theorem dX6_init_1 : decode cX6_init 1 = .ok (.invokespecial 3, 3) := by decide +kernel
theorem dX6_init_4 : decode cX6_init 4 = .ok (.aload_n 0, 1) := by decide +kernel
theorem dX6_init_5 : decode cX6_init 5 = .ok (.bipush 30, 2) := by decide +kernel
theorem dX6_init_7 : decode cX6_init 7 = .ok (.newarray .int, 2) := by decide +kernel
theorem dX6_init_9 : decode cX6_init 9 = .ok (.putfield 9, 3) := by decide +kernel
theorem dX6_init_12 : decode cX6_init 12 = .ok (.aload_n 0, 1) := by decide +kernel
theorem dX6_init_13 : decode cX6_init 13 = .ok (.bipush 30, 2) := by decide +kernel
theorem dX6_init_15 : decode cX6_init 15 = .ok (.newarray .int, 2) := by decide +kernel
theorem dX6_init_17 : decode cX6_init 17 = .ok (.putfield 15, 3) := by decide +kernel
theorem dX6_init_20 : decode cX6_init 20 = .ok (.aload_n 0, 1) := by decide +kernel
theorem dX6_init_21 : decode cX6_init 21 = .ok (.bipush 30, 2) := by decide +kernel
theorem dX6_init_23 : decode cX6_init 23 = .ok (.newarray .int, 2) := by decide +kernel
theorem dX6_init_25 : decode cX6_init 25 = .ok (.putfield 18, 3) := by decide +kernel
theorem dX6_init_28 : decode cX6_init 28 = .ok (.aload_n 0, 1) := by decide +kernel
theorem dX6_init_29 : decode cX6_init 29 = .ok (.bipush 30, 2) := by decide +kernel
theorem dX6_init_31 : decode cX6_init 31 = .ok (.newarray .int, 2) := by decide +kernel
theorem dX6_init_33 : decode cX6_init 33 = .ok (.putfield 21, 3) := by decide +kernel
theorem dX6_init_36 : decode cX6_init 36 = .ok (.aload_n 0, 1) := by decide +kernel
theorem dX6_init_37 : decode cX6_init 37 = .ok (.bipush 30, 2) := by decide +kernel
theorem dX6_init_39 : decode cX6_init 39 = .ok (.newarray .int, 2) := by decide +kernel
theorem dX6_init_41 : decode cX6_init 41 = .ok (.putfield 24, 3) := by decide +kernel
theorem dX6_init_44 : decode cX6_init 44 = .ok (.aload_n 0, 1) := by decide +kernel
theorem dX6_init_45 : decode cX6_init 45 = .ok (.iconst 4, 1) := by decide +kernel
theorem dX6_init_46 : decode cX6_init 46 = .ok (.newarray .int, 2) := by decide +kernel
theorem dX6_init_48 : decode cX6_init 48 = .ok (.putfield 27, 3) := by decide +kernel
theorem dX6_init_51 : decode cX6_init 51 = .ok (.aload_n 0, 1) := by decide +kernel
theorem dX6_init_52 : decode cX6_init 52 = .ok (.bipush 8, 2) := by decide +kernel
theorem dX6_init_54 : decode cX6_init 54 = .ok (.newarray .int, 2) := by decide +kernel
theorem dX6_init_56 : decode cX6_init 56 = .ok (.putfield 30, 3) := by decide +kernel
theorem dX6_init_59 : decode cX6_init 59 = .ok (.aload_n 0, 1) := by decide +kernel
theorem dX6_init_60 : decode cX6_init 60 = .ok (.iconst 3, 1) := by decide +kernel
theorem dX6_init_61 : decode cX6_init 61 = .ok (.newarray .int, 2) := by decide +kernel
theorem dX6_init_63 : decode cX6_init 63 = .ok (.putfield 33, 3) := by decide +kernel
theorem dX6_init_66 : decode cX6_init 66 = .ok (.aload_n 0, 1) := by decide +kernel
theorem dX6_init_67 : decode cX6_init 67 = .ok (.bipush 30, 2) := by decide +kernel
theorem dX6_init_69 : decode cX6_init 69 = .ok (.newarray .int, 2) := by decide +kernel
theorem dX6_init_71 : decode cX6_init 71 = .ok (.putfield 36, 3) := by decide +kernel
theorem dX6_init_74 : decode cX6_init 74 = .ok (.aload_n 0, 1) := by decide +kernel
theorem dX6_init_75 : decode cX6_init 75 = .ok (.sipush 600, 3) := by decide +kernel
theorem dX6_init_78 : decode cX6_init 78 = .ok (.newarray .int, 2) := by decide +kernel
theorem dX6_init_80 : decode cX6_init 80 = .ok (.putfield 39, 3) := by decide +kernel
theorem dX6_init_83 : decode cX6_init 83 = .ok (.return_, 1) := by decide +kernel
theorem dX6_has_0 : decode cX6_has 0 = .ok (.iload_n 1, 1) := by decide +kernel
theorem dX6_has_1 : decode cX6_has 1 = .ok (.iconst 0, 1) := by decide +kernel
theorem dX6_has_2 : decode cX6_has 2 = .ok (.aload_n 0, 1) := by decide +kernel
theorem dX6_has_3 : decode cX6_has 3 = .ok (.getfield 42, 3) := by decide +kernel
theorem dX6_has_6 : decode cX6_has 6 = .ok (.iconst 1, 1) := by decide +kernel
theorem dX6_has_7 : decode cX6_has 7 = .ok (.isub, 1) := by decide +kernel
theorem dX6_has_8 : decode cX6_has 8 = .ok (.invokestatic 46, 3) := by decide +kernel
theorem dX6_has_11 : decode cX6_has 11 = .ok (.ireturn, 1) := by decide +kernel
theorem dX6_hasAll_0 : decode cX6_hasAll 0 = .ok (.iload_n 1, 1) := by decide +kernel
theorem dX6_hasAll_1 : decode cX6_hasAll 1 = .ok (.aload_n 0, 1) := by decide +kernel
theorem dX6_hasAll_2 : decode cX6_hasAll 2 = .ok (.getfield 50, 3) := by decide +kernel
theorem dX6_hasAll_5 : decode cX6_hasAll 5 = .ok (.iconst (-1), 1) := by decide +kernel
theorem dX6_hasAll_6 : decode cX6_hasAll 6 = .ok (.ixor, 1) := by decide +kernel
theorem dX6_hasAll_7 : decode cX6_hasAll 7 = .ok (.iand, 1) := by decide +kernel
theorem dX6_hasAll_8 : decode cX6_hasAll 8 = .ok (.ifCond .ne 7, 3) := by decide +kernel
theorem dX6_hasAll_11 : decode cX6_hasAll 11 = .ok (.iconst 1, 1) := by decide +kernel
theorem dX6_hasAll_12 : decode cX6_hasAll 12 = .ok (.goto 4, 3) := by decide +kernel
theorem dX6_hasAll_15 : decode cX6_hasAll 15 = .ok (.iconst 0, 1) := by decide +kernel
theorem dX6_hasAll_16 : decode cX6_hasAll 16 = .ok (.ireturn, 1) := by decide +kernel
theorem dX6_enter_0 : decode cX6_enter 0 = .ok (.iload_n 1, 1) := by decide +kernel
theorem dX6_enter_1 : decode cX6_enter 1 = .ok (.iconst 0, 1) := by decide +kernel
theorem dX6_enter_2 : decode cX6_enter 2 = .ok (.iconst 3, 1) := by decide +kernel
theorem dX6_enter_3 : decode cX6_enter 3 = .ok (.invokestatic 46, 3) := by decide +kernel
theorem dX6_enter_6 : decode cX6_enter 6 = .ok (.ifCond .eq 33, 3) := by decide +kernel
theorem dX6_enter_9 : decode cX6_enter 9 = .ok (.iload_n 2, 1) := by decide +kernel
theorem dX6_enter_10 : decode cX6_enter 10 = .ok (.iconst 0, 1) := by decide +kernel
theorem dX6_enter_11 : decode cX6_enter 11 = .ok (.bipush 7, 2) := by decide +kernel
theorem dX6_enter_13 : decode cX6_enter 13 = .ok (.invokestatic 46, 3) := by decide +kernel
theorem dX6_enter_16 : decode cX6_enter 16 = .ok (.ifCond .eq 23, 3) := by decide +kernel
theorem dX6_enter_19 : decode cX6_enter 19 = .ok (.iload_n 3, 1) := by decide +kernel
theorem dX6_enter_20 : decode cX6_enter 20 = .ok (.iconst 1, 1) := by decide +kernel
theorem dX6_enter_21 : decode cX6_enter 21 = .ok (.bipush 20, 2) := by decide +kernel
theorem dX6_enter_23 : decode cX6_enter 23 = .ok (.invokestatic 46, 3) := by decide +kernel
theorem dX6_enter_26 : decode cX6_enter 26 = .ok (.ifCond .eq 13, 3) := by decide +kernel
theorem dX6_enter_29 : decode cX6_enter 29 = .ok (.iload 4, 2) := by decide +kernel
theorem dX6_enter_31 : decode cX6_enter 31 = .ok (.iconst 0, 1) := by decide +kernel
theorem dX6_enter_32 : decode cX6_enter 32 = .ok (.iconst 2, 1) := by decide +kernel
theorem dX6_enter_33 : decode cX6_enter 33 = .ok (.invokestatic 46, 3) := by decide +kernel
theorem dX6_enter_36 : decode cX6_enter 36 = .ok (.ifCond .ne 6, 3) := by decide +kernel
theorem dX6_enter_39 : decode cX6_enter 39 = .ok (.bipush (-2), 2) := by decide +kernel
theorem dX6_enter_41 : decode cX6_enter 41 = .ok (.ireturn, 1) := by decide +kernel
theorem dX6_enter_42 : decode cX6_enter 42 = .ok (.aload_n 0, 1) := by decide +kernel
theorem dX6_enter_43 : decode cX6_enter 43 = .ok (.getfield 42, 3) := by decide +kernel
theorem dX6_enter_46 : decode cX6_enter 46 = .ok (.bipush 30, 2) := by decide +kernel
theorem dX6_enter_48 : decode cX6_enter 48 = .ok (.if_icmp .lt 6, 3) := by decide +kernel
theorem dX6_enter_51 : decode cX6_enter 51 = .ok (.bipush (-4), 2) := by decide +kernel
theorem dX6_enter_53 : decode cX6_enter 53 = .ok (.ireturn, 1) := by decide +kernel
theorem dX6_enter_54 : decode cX6_enter 54 = .ok (.aload_n 0, 1) := by decide +kernel
theorem dX6_enter_55 : decode cX6_enter 55 = .ok (.getfield 42, 3) := by decide +kernel
theorem dX6_enter_58 : decode cX6_enter 58 = .ok (.istore 5, 2) := by decide +kernel
theorem dX6_enter_60 : decode cX6_enter 60 = .ok (.aload_n 0, 1) := by decide +kernel
theorem dX6_enter_61 : decode cX6_enter 61 = .ok (.dup, 1) := by decide +kernel
theorem dX6_enter_62 : decode cX6_enter 62 = .ok (.getfield 42, 3) := by decide +kernel
theorem dX6_enter_65 : decode cX6_enter 65 = .ok (.iconst 1, 1) := by decide +kernel
theorem dX6_enter_66 : decode cX6_enter 66 = .ok (.iadd, 1) := by decide +kernel
theorem dX6_enter_67 : decode cX6_enter 67 = .ok (.putfield 42, 3) := by decide +kernel
theorem dX6_enter_70 : decode cX6_enter 70 = .ok (.aload_n 0, 1) := by decide +kernel
theorem dX6_enter_71 : decode cX6_enter 71 = .ok (.getfield 9, 3) := by decide +kernel
theorem dX6_enter_74 : decode cX6_enter 74 = .ok (.iload 5, 2) := by decide +kernel
theorem dX6_enter_76 : decode cX6_enter 76 = .ok (.iload_n 1, 1) := by decide +kernel
theorem dX6_enter_77 : decode cX6_enter 77 = .ok (.iastore, 1) := by decide +kernel
theorem dX6_enter_78 : decode cX6_enter 78 = .ok (.aload_n 0, 1) := by decide +kernel
theorem dX6_enter_79 : decode cX6_enter 79 = .ok (.getfield 15, 3) := by decide +kernel
theorem dX6_enter_82 : decode cX6_enter 82 = .ok (.iload 5, 2) := by decide +kernel
theorem dX6_enter_84 : decode cX6_enter 84 = .ok (.iload_n 2, 1) := by decide +kernel
theorem dX6_enter_85 : decode cX6_enter 85 = .ok (.iastore, 1) := by decide +kernel
theorem dX6_enter_86 : decode cX6_enter 86 = .ok (.aload_n 0, 1) := by decide +kernel
theorem dX6_enter_87 : decode cX6_enter 87 = .ok (.getfield 18, 3) := by decide +kernel
theorem dX6_enter_90 : decode cX6_enter 90 = .ok (.iload 5, 2) := by decide +kernel
theorem dX6_enter_92 : decode cX6_enter 92 = .ok (.iload_n 3, 1) := by decide +kernel
theorem dX6_enter_93 : decode cX6_enter 93 = .ok (.iastore, 1) := by decide +kernel
theorem dX6_enter_94 : decode cX6_enter 94 = .ok (.aload_n 0, 1) := by decide +kernel
theorem dX6_enter_95 : decode cX6_enter 95 = .ok (.getfield 21, 3) := by decide +kernel
theorem dX6_enter_98 : decode cX6_enter 98 = .ok (.iload 5, 2) := by decide +kernel
theorem dX6_enter_100 : decode cX6_enter 100 = .ok (.iload 4, 2) := by decide +kernel
theorem dX6_enter_102 : decode cX6_enter 102 = .ok (.iastore, 1) := by decide +kernel
theorem dX6_enter_103 : decode cX6_enter 103 = .ok (.aload_n 0, 1) := by decide +kernel
theorem dX6_enter_104 : decode cX6_enter 104 = .ok (.getfield 24, 3) := by decide +kernel
theorem dX6_enter_107 : decode cX6_enter 107 = .ok (.iload 5, 2) := by decide +kernel
theorem dX6_enter_109 : decode cX6_enter 109 = .ok (.iconst (-1), 1) := by decide +kernel
theorem dX6_enter_110 : decode cX6_enter 110 = .ok (.iastore, 1) := by decide +kernel
theorem dX6_enter_111 : decode cX6_enter 111 = .ok (.aload_n 0, 1) := by decide +kernel
theorem dX6_enter_112 : decode cX6_enter 112 = .ok (.dup, 1) := by decide +kernel
theorem dX6_enter_113 : decode cX6_enter 113 = .ok (.getfield 50, 3) := by decide +kernel
theorem dX6_enter_116 : decode cX6_enter 116 = .ok (.iconst 1, 1) := by decide +kernel
theorem dX6_enter_117 : decode cX6_enter 117 = .ok (.iload 5, 2) := by decide +kernel
theorem dX6_enter_119 : decode cX6_enter 119 = .ok (.ishl, 1) := by decide +kernel
theorem dX6_enter_120 : decode cX6_enter 120 = .ok (.ior, 1) := by decide +kernel
theorem dX6_enter_121 : decode cX6_enter 121 = .ok (.putfield 50, 3) := by decide +kernel
theorem dX6_enter_124 : decode cX6_enter 124 = .ok (.aload_n 0, 1) := by decide +kernel
theorem dX6_enter_125 : decode cX6_enter 125 = .ok (.getfield 27, 3) := by decide +kernel
theorem dX6_enter_128 : decode cX6_enter 128 = .ok (.iload_n 1, 1) := by decide +kernel
theorem dX6_enter_129 : decode cX6_enter 129 = .ok (.dup2, 1) := by decide +kernel
theorem dX6_enter_130 : decode cX6_enter 130 = .ok (.iaload, 1) := by decide +kernel
theorem dX6_enter_131 : decode cX6_enter 131 = .ok (.iconst 1, 1) := by decide +kernel
theorem dX6_enter_132 : decode cX6_enter 132 = .ok (.iload 5, 2) := by decide +kernel
theorem dX6_enter_134 : decode cX6_enter 134 = .ok (.ishl, 1) := by decide +kernel
theorem dX6_enter_135 : decode cX6_enter 135 = .ok (.ior, 1) := by decide +kernel
theorem dX6_enter_136 : decode cX6_enter 136 = .ok (.iastore, 1) := by decide +kernel
theorem dX6_enter_137 : decode cX6_enter 137 = .ok (.aload_n 0, 1) := by decide +kernel
theorem dX6_enter_138 : decode cX6_enter 138 = .ok (.getfield 30, 3) := by decide +kernel
theorem dX6_enter_141 : decode cX6_enter 141 = .ok (.iload_n 2, 1) := by decide +kernel
theorem dX6_enter_142 : decode cX6_enter 142 = .ok (.dup2, 1) := by decide +kernel
theorem dX6_enter_143 : decode cX6_enter 143 = .ok (.iaload, 1) := by decide +kernel
theorem dX6_enter_144 : decode cX6_enter 144 = .ok (.iconst 1, 1) := by decide +kernel
theorem dX6_enter_145 : decode cX6_enter 145 = .ok (.iload 5, 2) := by decide +kernel
theorem dX6_enter_147 : decode cX6_enter 147 = .ok (.ishl, 1) := by decide +kernel
theorem dX6_enter_148 : decode cX6_enter 148 = .ok (.ior, 1) := by decide +kernel
theorem dX6_enter_149 : decode cX6_enter 149 = .ok (.iastore, 1) := by decide +kernel
theorem dX6_enter_150 : decode cX6_enter 150 = .ok (.aload_n 0, 1) := by decide +kernel
theorem dX6_enter_151 : decode cX6_enter 151 = .ok (.getfield 33, 3) := by decide +kernel
theorem dX6_enter_154 : decode cX6_enter 154 = .ok (.iload 4, 2) := by decide +kernel
theorem dX6_enter_156 : decode cX6_enter 156 = .ok (.dup2, 1) := by decide +kernel
theorem dX6_enter_157 : decode cX6_enter 157 = .ok (.iaload, 1) := by decide +kernel
theorem dX6_enter_158 : decode cX6_enter 158 = .ok (.iconst 1, 1) := by decide +kernel
theorem dX6_enter_159 : decode cX6_enter 159 = .ok (.iload 5, 2) := by decide +kernel
theorem dX6_enter_161 : decode cX6_enter 161 = .ok (.ishl, 1) := by decide +kernel
theorem dX6_enter_162 : decode cX6_enter 162 = .ok (.ior, 1) := by decide +kernel
theorem dX6_enter_163 : decode cX6_enter 163 = .ok (.iastore, 1) := by decide +kernel
theorem dX6_enter_164 : decode cX6_enter 164 = .ok (.aload_n 0, 1) := by decide +kernel
theorem dX6_enter_165 : decode cX6_enter 165 = .ok (.dup, 1) := by decide +kernel
theorem dX6_enter_166 : decode cX6_enter 166 = .ok (.getfield 53, 3) := by decide +kernel
theorem dX6_enter_169 : decode cX6_enter 169 = .ok (.iconst 1, 1) := by decide +kernel
theorem dX6_enter_170 : decode cX6_enter 170 = .ok (.iload_n 2, 1) := by decide +kernel
theorem dX6_enter_171 : decode cX6_enter 171 = .ok (.ishl, 1) := by decide +kernel
theorem dX6_enter_172 : decode cX6_enter 172 = .ok (.ior, 1) := by decide +kernel
theorem dX6_enter_173 : decode cX6_enter 173 = .ok (.putfield 53, 3) := by decide +kernel
theorem dX6_enter_176 : decode cX6_enter 176 = .ok (.aload_n 0, 1) := by decide +kernel
theorem dX6_enter_177 : decode cX6_enter 177 = .ok (.iload 5, 2) := by decide +kernel
theorem dX6_enter_179 : decode cX6_enter 179 = .ok (.invokevirtual 56, 3) := by decide +kernel
theorem dX6_enter_182 : decode cX6_enter 182 = .ok (.iload 5, 2) := by decide +kernel
theorem dX6_enter_184 : decode cX6_enter 184 = .ok (.ireturn, 1) := by decide +kernel
theorem dX6_layOnLine_0 : decode cX6_layOnLine 0 = .ok (.aload_n 0, 1) := by decide +kernel
theorem dX6_layOnLine_1 : decode cX6_layOnLine 1 = .ok (.getfield 36, 3) := by decide +kernel
theorem dX6_layOnLine_4 : decode cX6_layOnLine 4 = .ok (.iload_n 1, 1) := by decide +kernel
theorem dX6_layOnLine_5 : decode cX6_layOnLine 5 = .ok (.aload_n 0, 1) := by decide +kernel
theorem dX6_layOnLine_6 : decode cX6_layOnLine 6 = .ok (.getfield 60, 3) := by decide +kernel
theorem dX6_layOnLine_9 : decode cX6_layOnLine 9 = .ok (.iastore, 1) := by decide +kernel
theorem dX6_layOnLine_10 : decode cX6_layOnLine 10 = .ok (.iconst 0, 1) := by decide +kernel
theorem dX6_layOnLine_11 : decode cX6_layOnLine 11 = .ok (.istore_n 2, 1) := by decide +kernel
theorem dX6_layOnLine_12 : decode cX6_layOnLine 12 = .ok (.iload_n 2, 1) := by decide +kernel
theorem dX6_layOnLine_13 : decode cX6_layOnLine 13 = .ok (.aload_n 0, 1) := by decide +kernel
theorem dX6_layOnLine_14 : decode cX6_layOnLine 14 = .ok (.getfield 18, 3) := by decide +kernel
theorem dX6_layOnLine_17 : decode cX6_layOnLine 17 = .ok (.iload_n 1, 1) := by decide +kernel
theorem dX6_layOnLine_18 : decode cX6_layOnLine 18 = .ok (.iaload, 1) := by decide +kernel
theorem dX6_layOnLine_19 : decode cX6_layOnLine 19 = .ok (.if_icmp .ge 41, 3) := by decide +kernel
theorem dX6_layOnLine_22 : decode cX6_layOnLine 22 = .ok (.aload_n 0, 1) := by decide +kernel
theorem dX6_layOnLine_23 : decode cX6_layOnLine 23 = .ok (.getfield 60, 3) := by decide +kernel
theorem dX6_layOnLine_26 : decode cX6_layOnLine 26 = .ok (.aload_n 0, 1) := by decide +kernel
theorem dX6_layOnLine_27 : decode cX6_layOnLine 27 = .ok (.getfield 39, 3) := by decide +kernel
theorem dX6_layOnLine_30 : decode cX6_layOnLine 30 = .ok (.arraylength, 1) := by decide +kernel
theorem dX6_layOnLine_31 : decode cX6_layOnLine 31 = .ok (.if_icmp .ge 29, 3) := by decide +kernel
theorem dX6_layOnLine_34 : decode cX6_layOnLine 34 = .ok (.aload_n 0, 1) := by decide +kernel
theorem dX6_layOnLine_35 : decode cX6_layOnLine 35 = .ok (.getfield 39, 3) := by decide +kernel
theorem dX6_layOnLine_38 : decode cX6_layOnLine 38 = .ok (.aload_n 0, 1) := by decide +kernel
theorem dX6_layOnLine_39 : decode cX6_layOnLine 39 = .ok (.getfield 60, 3) := by decide +kernel
theorem dX6_layOnLine_42 : decode cX6_layOnLine 42 = .ok (.iload_n 1, 1) := by decide +kernel
theorem dX6_layOnLine_43 : decode cX6_layOnLine 43 = .ok (.iastore, 1) := by decide +kernel
theorem dX6_layOnLine_44 : decode cX6_layOnLine 44 = .ok (.aload_n 0, 1) := by decide +kernel
theorem dX6_layOnLine_45 : decode cX6_layOnLine 45 = .ok (.dup, 1) := by decide +kernel
theorem dX6_layOnLine_46 : decode cX6_layOnLine 46 = .ok (.getfield 60, 3) := by decide +kernel
theorem dX6_layOnLine_49 : decode cX6_layOnLine 49 = .ok (.iconst 1, 1) := by decide +kernel
theorem dX6_layOnLine_50 : decode cX6_layOnLine 50 = .ok (.iadd, 1) := by decide +kernel
theorem dX6_layOnLine_51 : decode cX6_layOnLine 51 = .ok (.putfield 60, 3) := by decide +kernel
theorem dX6_layOnLine_54 : decode cX6_layOnLine 54 = .ok (.iinc 2 1, 3) := by decide +kernel
theorem dX6_layOnLine_57 : decode cX6_layOnLine 57 = .ok (.goto (-45), 3) := by decide +kernel
theorem dX6_layOnLine_60 : decode cX6_layOnLine 60 = .ok (.return_, 1) := by decide +kernel
theorem dX6_forgetValues_0 : decode cX6_forgetValues 0 = .ok (.aload_n 0, 1) := by decide +kernel
theorem dX6_forgetValues_1 : decode cX6_forgetValues 1 = .ok (.iconst 0, 1) := by decide +kernel
theorem dX6_forgetValues_2 : decode cX6_forgetValues 2 = .ok (.putfield 63, 3) := by decide +kernel
theorem dX6_forgetValues_5 : decode cX6_forgetValues 5 = .ok (.iconst 0, 1) := by decide +kernel
theorem dX6_forgetValues_6 : decode cX6_forgetValues 6 = .ok (.istore_n 1, 1) := by decide +kernel
theorem dX6_forgetValues_7 : decode cX6_forgetValues 7 = .ok (.iload_n 1, 1) := by decide +kernel
