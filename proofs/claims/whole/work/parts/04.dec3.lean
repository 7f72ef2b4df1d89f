theorem dX12_many_63 : decode cX12_many 63 = .ok (.iconst 0, 1) := by decide +kernel
theorem dX12_many_64 : decode cX12_many 64 = .ok (.istore_n 3, 1) := by decide +kernel
theorem dX12_many_65 : decode cX12_many 65 = .ok (.iload_n 3, 1) := by decide +kernel
theorem dX12_many_66 : decode cX12_many 66 = .ok (.ifCond .eq 12, 3) := by decide +kernel
theorem dX12_many_69 : decode cX12_many 69 = .ok (.aload_n 0, 1) := by decide +kernel
theorem dX12_many_70 : decode cX12_many 70 = .ok (.iload_n 1, 1) := by decide +kernel
theorem dX12_many_71 : decode cX12_many 71 = .ok (.iload_n 2, 1) := by decide +kernel
theorem dX12_many_72 : decode cX12_many 72 = .ok (.invokevirtual 144, 3) := by decide +kernel
theorem dX12_many_75 : decode cX12_many 75 = .ok (.goto 5, 3) := by decide +kernel
theorem dX12_many_78 : decode cX12_many 78 = .ok (.bipush (-2), 2) := by decide +kernel
theorem dX12_many_80 : decode cX12_many 80 = .ok (.ireturn, 1) := by decide +kernel
theorem dX12_clustersNow_0 : decode cX12_clustersNow 0 = .ok (.iconst 0, 1) := by decide +kernel
theorem dX12_clustersNow_1 : decode cX12_clustersNow 1 = .ok (.istore_n 1, 1) := by decide +kernel
theorem dX12_clustersNow_2 : decode cX12_clustersNow 2 = .ok (.iconst 0, 1) := by decide +kernel
theorem dX12_clustersNow_3 : decode cX12_clustersNow 3 = .ok (.istore_n 2, 1) := by decide +kernel
theorem dX12_clustersNow_4 : decode cX12_clustersNow 4 = .ok (.iload_n 2, 1) := by decide +kernel
theorem dX12_clustersNow_5 : decode cX12_clustersNow 5 = .ok (.bipush 8, 2) := by decide +kernel
theorem dX12_clustersNow_7 : decode cX12_clustersNow 7 = .ok (.if_icmp .ge 26, 3) := by decide +kernel
theorem dX12_clustersNow_10 : decode cX12_clustersNow 10 = .ok (.iload_n 1, 1) := by decide +kernel
theorem dX12_clustersNow_11 : decode cX12_clustersNow 11 = .ok (.aload_n 0, 1) := by decide +kernel
theorem dX12_clustersNow_12 : decode cX12_clustersNow 12 = .ok (.iconst 1, 1) := by decide +kernel
theorem dX12_clustersNow_13 : decode cX12_clustersNow 13 = .ok (.iload_n 2, 1) := by decide +kernel
theorem dX12_clustersNow_14 : decode cX12_clustersNow 14 = .ok (.invokevirtual 144, 3) := by decide +kernel
theorem dX12_clustersNow_17 : decode cX12_clustersNow 17 = .ok (.ifCond .le 7, 3) := by decide +kernel
theorem dX12_clustersNow_20 : decode cX12_clustersNow 20 = .ok (.iconst 1, 1) := by decide +kernel
theorem dX12_clustersNow_21 : decode cX12_clustersNow 21 = .ok (.goto 4, 3) := by decide +kernel
theorem dX12_clustersNow_24 : decode cX12_clustersNow 24 = .ok (.iconst 0, 1) := by decide +kernel
theorem dX12_clustersNow_25 : decode cX12_clustersNow 25 = .ok (.iadd, 1) := by decide +kernel
theorem dX12_clustersNow_26 : decode cX12_clustersNow 26 = .ok (.istore_n 1, 1) := by decide +kernel
theorem dX12_clustersNow_27 : decode cX12_clustersNow 27 = .ok (.iinc 2 1, 3) := by decide +kernel
theorem dX12_clustersNow_30 : decode cX12_clustersNow 30 = .ok (.goto (-26), 3) := by decide +kernel
theorem dX12_clustersNow_33 : decode cX12_clustersNow 33 = .ok (.iload_n 1, 1) := by decide +kernel
theorem dX12_clustersNow_34 : decode cX12_clustersNow 34 = .ok (.ireturn, 1) := by decide +kernel
theorem dX12_allSizes_0 : decode cX12_allSizes 0 = .ok (.iconst 0, 1) := by decide +kernel
theorem dX12_allSizes_1 : decode cX12_allSizes 1 = .ok (.istore_n 1, 1) := by decide +kernel
theorem dX12_allSizes_2 : decode cX12_allSizes 2 = .ok (.iconst 0, 1) := by decide +kernel
theorem dX12_allSizes_3 : decode cX12_allSizes 3 = .ok (.istore_n 2, 1) := by decide +kernel
theorem dX12_allSizes_4 : decode cX12_allSizes 4 = .ok (.iload_n 2, 1) := by decide +kernel
theorem dX12_allSizes_5 : decode cX12_allSizes 5 = .ok (.aload_n 0, 1) := by decide +kernel
theorem dX12_allSizes_6 : decode cX12_allSizes 6 = .ok (.getfield 115, 3) := by decide +kernel
theorem dX12_allSizes_9 : decode cX12_allSizes 9 = .ok (.if_icmp .ge 18, 3) := by decide +kernel
theorem dX12_allSizes_12 : decode cX12_allSizes 12 = .ok (.iload_n 1, 1) := by decide +kernel
theorem dX12_allSizes_13 : decode cX12_allSizes 13 = .ok (.aload_n 0, 1) := by decide +kernel
theorem dX12_allSizes_14 : decode cX12_allSizes 14 = .ok (.getfield 28, 3) := by decide +kernel
theorem dX12_allSizes_17 : decode cX12_allSizes 17 = .ok (.iload_n 2, 1) := by decide +kernel
theorem dX12_allSizes_18 : decode cX12_allSizes 18 = .ok (.iaload, 1) := by decide +kernel
theorem dX12_allSizes_19 : decode cX12_allSizes 19 = .ok (.iadd, 1) := by decide +kernel
theorem dX12_allSizes_20 : decode cX12_allSizes 20 = .ok (.istore_n 1, 1) := by decide +kernel
theorem dX12_allSizes_21 : decode cX12_allSizes 21 = .ok (.iinc 2 1, 3) := by decide +kernel
theorem dX12_allSizes_24 : decode cX12_allSizes 24 = .ok (.goto (-20), 3) := by decide +kernel
theorem dX12_allSizes_27 : decode cX12_allSizes 27 = .ok (.iload_n 1, 1) := by decide +kernel
theorem dX12_allSizes_28 : decode cX12_allSizes 28 = .ok (.ireturn, 1) := by decide +kernel
theorem dX12_isPlan_0 : decode cX12_isPlan 0 = .ok (.iload_n 0, 1) := by decide +kernel
theorem dX12_isPlan_1 : decode cX12_isPlan 1 = .ok (.i2l, 1) := by decide +kernel
theorem dX12_isPlan_2 : decode cX12_isPlan 2 = .ok (.lconst 0, 1) := by decide +kernel
theorem dX12_isPlan_3 : decode cX12_isPlan 3 = .ok (.ldc2_w 90, 3) := by decide +kernel
theorem dX12_isPlan_6 : decode cX12_isPlan 6 = .ok (.invokestatic 92, 3) := by decide +kernel
theorem dX12_isPlan_9 : decode cX12_isPlan 9 = .ok (.ireturn, 1) := by decide +kernel
theorem dX12_type_0 : decode cX12_type 0 = .ok (.iload_n 1, 1) := by decide +kernel
theorem dX12_type_1 : decode cX12_type 1 = .ok (.invokestatic 147, 3) := by decide +kernel
theorem dX12_type_4 : decode cX12_type 4 = .ok (.ifCond .eq 15, 3) := by decide +kernel
theorem dX12_type_7 : decode cX12_type 7 = .ok (.iload_n 2, 1) := by decide +kernel
theorem dX12_type_8 : decode cX12_type 8 = .ok (.i2l, 1) := by decide +kernel
theorem dX12_type_9 : decode cX12_type 9 = .ok (.lconst 0, 1) := by decide +kernel
theorem dX12_type_10 : decode cX12_type 10 = .ok (.ldc2_w 150, 3) := by decide +kernel
theorem dX12_type_13 : decode cX12_type 13 = .ok (.invokestatic 92, 3) := by decide +kernel
theorem dX12_type_16 : decode cX12_type 16 = .ok (.ifCond .ne 6, 3) := by decide +kernel
theorem dX12_type_19 : decode cX12_type 19 = .ok (.bipush (-2), 2) := by decide +kernel
theorem dX12_type_21 : decode cX12_type 21 = .ok (.ireturn, 1) := by decide +kernel
theorem dX12_type_22 : decode cX12_type 22 = .ok (.aload_n 0, 1) := by decide +kernel
theorem dX12_type_23 : decode cX12_type 23 = .ok (.getfield 50, 3) := by decide +kernel
theorem dX12_type_26 : decode cX12_type 26 = .ok (.iload_n 1, 1) := by decide +kernel
theorem dX12_type_27 : decode cX12_type 27 = .ok (.iaload, 1) := by decide +kernel
theorem dX12_type_28 : decode cX12_type 28 = .ok (.bipush 20, 2) := by decide +kernel
theorem dX12_type_30 : decode cX12_type 30 = .ok (.if_icmp .ne 6, 3) := by decide +kernel
theorem dX12_type_33 : decode cX12_type 33 = .ok (.bipush (-4), 2) := by decide +kernel
theorem dX12_type_35 : decode cX12_type 35 = .ok (.ireturn, 1) := by decide +kernel
theorem dX12_type_36 : decode cX12_type 36 = .ok (.aload_n 0, 1) := by decide +kernel
theorem dX12_type_37 : decode cX12_type 37 = .ok (.getfield 47, 3) := by decide +kernel
theorem dX12_type_40 : decode cX12_type 40 = .ok (.bipush 20, 2) := by decide +kernel
theorem dX12_type_42 : decode cX12_type 42 = .ok (.iload_n 1, 1) := by decide +kernel
theorem dX12_type_43 : decode cX12_type 43 = .ok (.imul, 1) := by decide +kernel
theorem dX12_type_44 : decode cX12_type 44 = .ok (.aload_n 0, 1) := by decide +kernel
theorem dX12_type_45 : decode cX12_type 45 = .ok (.getfield 50, 3) := by decide +kernel
theorem dX12_type_48 : decode cX12_type 48 = .ok (.iload_n 1, 1) := by decide +kernel
theorem dX12_type_49 : decode cX12_type 49 = .ok (.iaload, 1) := by decide +kernel
theorem dX12_type_50 : decode cX12_type 50 = .ok (.iadd, 1) := by decide +kernel
theorem dX12_type_51 : decode cX12_type 51 = .ok (.iload_n 2, 1) := by decide +kernel
theorem dX12_type_52 : decode cX12_type 52 = .ok (.iastore, 1) := by decide +kernel
theorem dX12_type_53 : decode cX12_type 53 = .ok (.aload_n 0, 1) := by decide +kernel
theorem dX12_type_54 : decode cX12_type 54 = .ok (.getfield 50, 3) := by decide +kernel
theorem dX12_type_57 : decode cX12_type 57 = .ok (.iload_n 1, 1) := by decide +kernel
theorem dX12_type_58 : decode cX12_type 58 = .ok (.dup2, 1) := by decide +kernel
theorem dX12_type_59 : decode cX12_type 59 = .ok (.iaload, 1) := by decide +kernel
theorem dX12_type_60 : decode cX12_type 60 = .ok (.iconst 1, 1) := by decide +kernel
theorem dX12_type_61 : decode cX12_type 61 = .ok (.iadd, 1) := by decide +kernel
theorem dX12_type_62 : decode cX12_type 62 = .ok (.iastore, 1) := by decide +kernel
theorem dX12_type_63 : decode cX12_type 63 = .ok (.aload_n 0, 1) := by decide +kernel
theorem dX12_type_64 : decode cX12_type 64 = .ok (.getfield 50, 3) := by decide +kernel
theorem dX12_type_67 : decode cX12_type 67 = .ok (.iload_n 1, 1) := by decide +kernel
theorem dX12_type_68 : decode cX12_type 68 = .ok (.iaload, 1) := by decide +kernel
theorem dX12_type_69 : decode cX12_type 69 = .ok (.ireturn, 1) := by decide +kernel
theorem dX12_wipe_0 : decode cX12_wipe 0 = .ok (.iload_n 1, 1) := by decide +kernel
theorem dX12_wipe_1 : decode cX12_wipe 1 = .ok (.invokestatic 147, 3) := by decide +kernel
theorem dX12_wipe_4 : decode cX12_wipe 4 = .ok (.ifCond .ne 6, 3) := by decide +kernel
theorem dX12_wipe_7 : decode cX12_wipe 7 = .ok (.bipush (-2), 2) := by decide +kernel
theorem dX12_wipe_9 : decode cX12_wipe 9 = .ok (.ireturn, 1) := by decide +kernel
theorem dX12_wipe_10 : decode cX12_wipe 10 = .ok (.aload_n 0, 1) := by decide +kernel
theorem dX12_wipe_11 : decode cX12_wipe 11 = .ok (.getfield 50, 3) := by decide +kernel
theorem dX12_wipe_14 : decode cX12_wipe 14 = .ok (.iload_n 1, 1) := by decide +kernel
theorem dX12_wipe_15 : decode cX12_wipe 15 = .ok (.iaload, 1) := by decide +kernel
theorem dX12_wipe_16 : decode cX12_wipe 16 = .ok (.istore_n 2, 1) := by decide +kernel
theorem dX12_wipe_17 : decode cX12_wipe 17 = .ok (.aload_n 0, 1) := by decide +kernel
theorem dX12_wipe_18 : decode cX12_wipe 18 = .ok (.getfield 50, 3) := by decide +kernel
theorem dX12_wipe_21 : decode cX12_wipe 21 = .ok (.iload_n 1, 1) := by decide +kernel
theorem dX12_wipe_22 : decode cX12_wipe 22 = .ok (.iconst 0, 1) := by decide +kernel
theorem dX12_wipe_23 : decode cX12_wipe 23 = .ok (.iastore, 1) := by decide +kernel
theorem dX12_wipe_24 : decode cX12_wipe 24 = .ok (.iload_n 2, 1) := by decide +kernel
theorem dX12_wipe_25 : decode cX12_wipe 25 = .ok (.ireturn, 1) := by decide +kernel
theorem dX12_here_0 : decode cX12_here 0 = .ok (.aload_n 0, 1) := by decide +kernel
theorem dX12_here_1 : decode cX12_here 1 = .ok (.getfield 152, 3) := by decide +kernel
theorem dX12_here_4 : decode cX12_here 4 = .ok (.aload_n 0, 1) := by decide +kernel
theorem dX12_here_5 : decode cX12_here 5 = .ok (.getfield 50, 3) := by decide +kernel
theorem dX12_here_8 : decode cX12_here 8 = .ok (.iload_n 1, 1) := by decide +kernel
theorem dX12_here_9 : decode cX12_here 9 = .ok (.iaload, 1) := by decide +kernel
theorem dX12_here_10 : decode cX12_here 10 = .ok (.if_icmp .ge 20, 3) := by decide +kernel
theorem dX12_here_13 : decode cX12_here 13 = .ok (.aload_n 0, 1) := by decide +kernel
theorem dX12_here_14 : decode cX12_here 14 = .ok (.getfield 47, 3) := by decide +kernel
theorem dX12_here_17 : decode cX12_here 17 = .ok (.bipush 20, 2) := by decide +kernel
theorem dX12_here_19 : decode cX12_here 19 = .ok (.iload_n 1, 1) := by decide +kernel
theorem dX12_here_20 : decode cX12_here 20 = .ok (.imul, 1) := by decide +kernel
theorem dX12_here_21 : decode cX12_here 21 = .ok (.aload_n 0, 1) := by decide +kernel
theorem dX12_here_22 : decode cX12_here 22 = .ok (.getfield 152, 3) := by decide +kernel
theorem dX12_here_25 : decode cX12_here 25 = .ok (.iadd, 1) := by decide +kernel
theorem dX12_here_26 : decode cX12_here 26 = .ok (.iaload, 1) := by decide +kernel
theorem dX12_here_27 : decode cX12_here 27 = .ok (.goto 4, 3) := by decide +kernel
theorem dX12_here_30 : decode cX12_here 30 = .ok (.iconst (-1), 1) := by decide +kernel
theorem dX12_here_31 : decode cX12_here 31 = .ok (.ireturn, 1) := by decide +kernel
theorem dX12_number_0 : decode cX12_number 0 = .ok (.aload_n 0, 1) := by decide +kernel
theorem dX12_number_1 : decode cX12_number 1 = .ok (.getfield 152, 3) := by decide +kernel
theorem dX12_number_4 : decode cX12_number 4 = .ok (.istore_n 3, 1) := by decide +kernel
theorem dX12_number_5 : decode cX12_number 5 = .ok (.iconst 0, 1) := by decide +kernel
theorem dX12_number_6 : decode cX12_number 6 = .ok (.istore 4, 2) := by decide +kernel
theorem dX12_number_8 : decode cX12_number 8 = .ok (.aload_n 0, 1) := by decide +kernel
theorem dX12_number_9 : decode cX12_number 9 = .ok (.getfield 152, 3) := by decide +kernel
theorem dX12_number_12 : decode cX12_number 12 = .ok (.iload_n 3, 1) := by decide +kernel
theorem dX12_number_13 : decode cX12_number 13 = .ok (.iconst 2, 1) := by decide +kernel
theorem dX12_number_14 : decode cX12_number 14 = .ok (.iadd, 1) := by decide +kernel
theorem dX12_number_15 : decode cX12_number 15 = .ok (.if_icmp .ge 50, 3) := by decide +kernel
theorem dX12_number_18 : decode cX12_number 18 = .ok (.aload_n 0, 1) := by decide +kernel
theorem dX12_number_19 : decode cX12_number 19 = .ok (.iload_n 1, 1) := by decide +kernel
theorem dX12_number_20 : decode cX12_number 20 = .ok (.invokevirtual 155, 3) := by decide +kernel
theorem dX12_number_23 : decode cX12_number 23 = .ok (.i2l, 1) := by decide +kernel
theorem dX12_number_24 : decode cX12_number 24 = .ok (.ldc2_w 158, 3) := by decide +kernel
theorem dX12_number_27 : decode cX12_number 27 = .ok (.ldc2_w 160, 3) := by decide +kernel
theorem dX12_number_30 : decode cX12_number 30 = .ok (.invokestatic 92, 3) := by decide +kernel
theorem dX12_number_33 : decode cX12_number 33 = .ok (.ifCond .eq 32, 3) := by decide +kernel
theorem dX12_number_36 : decode cX12_number 36 = .ok (.bipush 10, 2) := by decide +kernel
theorem dX12_number_38 : decode cX12_number 38 = .ok (.iload 4, 2) := by decide +kernel
theorem dX12_number_40 : decode cX12_number 40 = .ok (.imul, 1) := by decide +kernel
theorem dX12_number_41 : decode cX12_number 41 = .ok (.aload_n 0, 1) := by decide +kernel
theorem dX12_number_42 : decode cX12_number 42 = .ok (.iload_n 1, 1) := by decide +kernel
theorem dX12_number_43 : decode cX12_number 43 = .ok (.invokevirtual 155, 3) := by decide +kernel
theorem dX12_number_46 : decode cX12_number 46 = .ok (.iadd, 1) := by decide +kernel
theorem dX12_number_47 : decode cX12_number 47 = .ok (.bipush 48, 2) := by decide +kernel
theorem dX12_number_49 : decode cX12_number 49 = .ok (.isub, 1) := by decide +kernel
theorem dX12_number_50 : decode cX12_number 50 = .ok (.istore 4, 2) := by decide +kernel
theorem dX12_number_52 : decode cX12_number 52 = .ok (.aload_n 0, 1) := by decide +kernel
theorem dX12_number_53 : decode cX12_number 53 = .ok (.dup, 1) := by decide +kernel
theorem dX12_number_54 : decode cX12_number 54 = .ok (.getfield 152, 3) := by decide +kernel
theorem dX12_number_57 : decode cX12_number 57 = .ok (.iconst 1, 1) := by decide +kernel
theorem dX12_number_58 : decode cX12_number 58 = .ok (.iadd, 1) := by decide +kernel
theorem dX12_number_59 : decode cX12_number 59 = .ok (.putfield 152, 3) := by decide +kernel
theorem dX12_number_62 : decode cX12_number 62 = .ok (.goto (-54), 3) := by decide +kernel
theorem dX12_number_65 : decode cX12_number 65 = .ok (.aload_n 0, 1) := by decide +kernel
theorem dX12_number_66 : decode cX12_number 66 = .ok (.getfield 53, 3) := by decide +kernel
theorem dX12_number_69 : decode cX12_number 69 = .ok (.iload_n 2, 1) := by decide +kernel
theorem dX12_number_70 : decode cX12_number 70 = .ok (.iload 4, 2) := by decide +kernel
theorem dX12_number_72 : decode cX12_number 72 = .ok (.iastore, 1) := by decide +kernel
theorem dX12_number_73 : decode cX12_number 73 = .ok (.aload_n 0, 1) := by decide +kernel
theorem dX12_number_74 : decode cX12_number 74 = .ok (.getfield 152, 3) := by decide +kernel
theorem dX12_number_77 : decode cX12_number 77 = .ok (.iload_n 3, 1) := by decide +kernel
theorem dX12_number_78 : decode cX12_number 78 = .ok (.if_icmp .le 7, 3) := by decide +kernel
theorem dX12_number_81 : decode cX12_number 81 = .ok (.iconst 1, 1) := by decide +kernel
theorem dX12_number_82 : decode cX12_number 82 = .ok (.goto 4, 3) := by decide +kernel
theorem dX12_number_85 : decode cX12_number 85 = .ok (.iconst 0, 1) := by decide +kernel
theorem dX12_number_86 : decode cX12_number 86 = .ok (.ireturn, 1) := by decide +kernel
theorem dX12_reads_0 : decode cX12_reads 0 = .ok (.aload_n 0, 1) := by decide +kernel
theorem dX12_reads_1 : decode cX12_reads 1 = .ok (.iconst 0, 1) := by decide +kernel
theorem dX12_reads_2 : decode cX12_reads 2 = .ok (.putfield 152, 3) := by decide +kernel
theorem dX12_reads_5 : decode cX12_reads 5 = .ok (.aload_n 0, 1) := by decide +kernel
theorem dX12_reads_6 : decode cX12_reads 6 = .ok (.iconst 0, 1) := by decide +kernel
theorem dX12_reads_7 : decode cX12_reads 7 = .ok (.putfield 162, 3) := by decide +kernel
theorem dX12_reads_10 : decode cX12_reads 10 = .ok (.aload_n 0, 1) := by decide +kernel
theorem dX12_reads_11 : decode cX12_reads 11 = .ok (.aload_n 0, 1) := by decide +kernel
theorem dX12_reads_12 : decode cX12_reads 12 = .ok (.iload_n 1, 1) := by decide +kernel
theorem dX12_reads_13 : decode cX12_reads 13 = .ok (.invokevirtual 155, 3) := by decide +kernel
theorem dX12_reads_16 : decode cX12_reads 16 = .ok (.putfield 166, 3) := by decide +kernel
theorem dX12_reads_19 : decode cX12_reads 19 = .ok (.aload_n 0, 1) := by decide +kernel
theorem dX12_reads_20 : decode cX12_reads 20 = .ok (.getfield 166, 3) := by decide +kernel
theorem dX12_reads_23 : decode cX12_reads 23 = .ok (.bipush 97, 2) := by decide +kernel
theorem dX12_reads_25 : decode cX12_reads 25 = .ok (.if_icmp .eq 44, 3) := by decide +kernel
theorem dX12_reads_28 : decode cX12_reads 28 = .ok (.aload_n 0, 1) := by decide +kernel
theorem dX12_reads_29 : decode cX12_reads 29 = .ok (.getfield 166, 3) := by decide +kernel
theorem dX12_reads_32 : decode cX12_reads 32 = .ok (.bipush 108, 2) := by decide +kernel
theorem dX12_reads_34 : decode cX12_reads 34 = .ok (.if_icmp .eq 35, 3) := by decide +kernel
theorem dX12_reads_37 : decode cX12_reads 37 = .ok (.aload_n 0, 1) := by decide +kernel
theorem dX12_reads_38 : decode cX12_reads 38 = .ok (.getfield 166, 3) := by decide +kernel
theorem dX12_reads_41 : decode cX12_reads 41 = .ok (.bipush 101, 2) := by decide +kernel
theorem dX12_reads_43 : decode cX12_reads 43 = .ok (.if_icmp .eq 26, 3) := by decide +kernel
theorem dX12_reads_46 : decode cX12_reads 46 = .ok (.aload_n 0, 1) := by decide +kernel
theorem dX12_reads_47 : decode cX12_reads 47 = .ok (.getfield 166, 3) := by decide +kernel
theorem dX12_reads_50 : decode cX12_reads 50 = .ok (.bipush 122, 2) := by decide +kernel
theorem dX12_reads_52 : decode cX12_reads 52 = .ok (.if_icmp .eq 17, 3) := by decide +kernel
theorem dX12_reads_55 : decode cX12_reads 55 = .ok (.aload_n 0, 1) := by decide +kernel
theorem dX12_reads_56 : decode cX12_reads 56 = .ok (.getfield 166, 3) := by decide +kernel
theorem dX12_reads_59 : decode cX12_reads 59 = .ok (.bipush 116, 2) := by decide +kernel
theorem dX12_reads_61 : decode cX12_reads 61 = .ok (.if_icmp .eq 8, 3) := by decide +kernel
theorem dX12_reads_64 : decode cX12_reads 64 = .ok (.aload_n 0, 1) := by decide +kernel
theorem dX12_reads_65 : decode cX12_reads 65 = .ok (.getfield 152, 3) := by decide +kernel
theorem dX12_reads_68 : decode cX12_reads 68 = .ok (.ireturn, 1) := by decide +kernel
theorem dX12_reads_69 : decode cX12_reads 69 = .ok (.aload_n 0, 1) := by decide +kernel
theorem dX12_reads_70 : decode cX12_reads 70 = .ok (.dup, 1) := by decide +kernel
theorem dX12_reads_71 : decode cX12_reads 71 = .ok (.getfield 152, 3) := by decide +kernel
theorem dX12_reads_74 : decode cX12_reads 74 = .ok (.iconst 1, 1) := by decide +kernel
theorem dX12_reads_75 : decode cX12_reads 75 = .ok (.iadd, 1) := by decide +kernel
theorem dX12_reads_76 : decode cX12_reads 76 = .ok (.putfield 152, 3) := by decide +kernel
theorem dX12_reads_79 : decode cX12_reads 79 = .ok (.aload_n 0, 1) := by decide +kernel
theorem dX12_reads_80 : decode cX12_reads 80 = .ok (.iload_n 1, 1) := by decide +kernel
theorem dX12_reads_81 : decode cX12_reads 81 = .ok (.iconst 0, 1) := by decide +kernel
theorem dX12_reads_82 : decode cX12_reads 82 = .ok (.invokevirtual 169, 3) := by decide +kernel
theorem dX12_reads_85 : decode cX12_reads 85 = .ok (.ifCond .ne 8, 3) := by decide +kernel
theorem dX12_reads_88 : decode cX12_reads 88 = .ok (.aload_n 0, 1) := by decide +kernel
theorem dX12_reads_89 : decode cX12_reads 89 = .ok (.getfield 152, 3) := by decide +kernel
theorem dX12_reads_92 : decode cX12_reads 92 = .ok (.ireturn, 1) := by decide +kernel
theorem dX12_reads_93 : decode cX12_reads 93 = .ok (.aload_n 0, 1) := by decide +kernel
theorem dX12_reads_94 : decode cX12_reads 94 = .ok (.getfield 166, 3) := by decide +kernel
theorem dX12_reads_97 : decode cX12_reads 97 = .ok (.bipush 108, 2) := by decide +kernel
theorem dX12_reads_99 : decode cX12_reads 99 = .ok (.if_icmp .ne 7, 3) := by decide +kernel
theorem dX12_reads_102 : decode cX12_reads 102 = .ok (.iconst 3, 1) := by decide +kernel
theorem dX12_reads_103 : decode cX12_reads 103 = .ok (.goto 17, 3) := by decide +kernel
theorem dX12_reads_106 : decode cX12_reads 106 = .ok (.aload_n 0, 1) := by decide +kernel
theorem dX12_reads_107 : decode cX12_reads 107 = .ok (.getfield 166, 3) := by decide +kernel
theorem dX12_reads_110 : decode cX12_reads 110 = .ok (.bipush 116, 2) := by decide +kernel
theorem dX12_reads_112 : decode cX12_reads 112 = .ok (.if_icmp .ne 7, 3) := by decide +kernel
theorem dX12_reads_115 : decode cX12_reads 115 = .ok (.iconst 1, 1) := by decide +kernel
theorem dX12_reads_116 : decode cX12_reads 116 = .ok (.goto 4, 3) := by decide +kernel
theorem dX12_reads_119 : decode cX12_reads 119 = .ok (.iconst 0, 1) := by decide +kernel
theorem dX12_reads_120 : decode cX12_reads 120 = .ok (.istore_n 2, 1) := by decide +kernel
theorem dX12_reads_121 : decode cX12_reads 121 = .ok (.iconst 1, 1) := by decide +kernel
theorem dX12_reads_122 : decode cX12_reads 122 = .ok (.istore_n 3, 1) := by decide +kernel
theorem dX12_reads_123 : decode cX12_reads 123 = .ok (.iload_n 3, 1) := by decide +kernel
theorem dX12_reads_124 : decode cX12_reads 124 = .ok (.iload_n 2, 1) := by decide +kernel
theorem dX12_reads_125 : decode cX12_reads 125 = .ok (.if_icmp .gt 62, 3) := by decide +kernel
theorem dX12_reads_128 : decode cX12_reads 128 = .ok (.aload_n 0, 1) := by decide +kernel
theorem dX12_reads_129 : decode cX12_reads 129 = .ok (.iload_n 1, 1) := by decide +kernel
theorem dX12_reads_130 : decode cX12_reads 130 = .ok (.invokevirtual 155, 3) := by decide +kernel
theorem dX12_reads_133 : decode cX12_reads 133 = .ok (.aload_n 0, 1) := by decide +kernel
theorem dX12_reads_134 : decode cX12_reads 134 = .ok (.getfield 166, 3) := by decide +kernel
theorem dX12_reads_137 : decode cX12_reads 137 = .ok (.bipush 108, 2) := by decide +kernel
theorem dX12_reads_139 : decode cX12_reads 139 = .ok (.if_icmp .ne 8, 3) := by decide +kernel
theorem dX12_reads_142 : decode cX12_reads 142 = .ok (.bipush 44, 2) := by decide +kernel
theorem dX12_reads_144 : decode cX12_reads 144 = .ok (.goto 5, 3) := by decide +kernel
theorem dX12_reads_147 : decode cX12_reads 147 = .ok (.bipush 120, 2) := by decide +kernel
theorem dX12_reads_149 : decode cX12_reads 149 = .ok (.if_icmp .eq 8, 3) := by decide +kernel
theorem dX12_reads_152 : decode cX12_reads 152 = .ok (.aload_n 0, 1) := by decide +kernel
theorem dX12_reads_153 : decode cX12_reads 153 = .ok (.getfield 152, 3) := by decide +kernel
theorem dX12_reads_156 : decode cX12_reads 156 = .ok (.ireturn, 1) := by decide +kernel
theorem dX12_reads_157 : decode cX12_reads 157 = .ok (.aload_n 0, 1) := by decide +kernel
theorem dX12_reads_158 : decode cX12_reads 158 = .ok (.dup, 1) := by decide +kernel
theorem dX12_reads_159 : decode cX12_reads 159 = .ok (.getfield 152, 3) := by decide +kernel
theorem dX12_reads_162 : decode cX12_reads 162 = .ok (.iconst 1, 1) := by decide +kernel
theorem dX12_reads_163 : decode cX12_reads 163 = .ok (.iadd, 1) := by decide +kernel
theorem dX12_reads_164 : decode cX12_reads 164 = .ok (.putfield 152, 3) := by decide +kernel
theorem dX12_reads_167 : decode cX12_reads 167 = .ok (.aload_n 0, 1) := by decide +kernel
theorem dX12_reads_168 : decode cX12_reads 168 = .ok (.iload_n 1, 1) := by decide +kernel
theorem dX12_reads_169 : decode cX12_reads 169 = .ok (.iload_n 3, 1) := by decide +kernel
theorem dX12_reads_170 : decode cX12_reads 170 = .ok (.invokevirtual 169, 3) := by decide +kernel
theorem dX12_reads_173 : decode cX12_reads 173 = .ok (.ifCond .ne 8, 3) := by decide +kernel
theorem dX12_reads_176 : decode cX12_reads 176 = .ok (.aload_n 0, 1) := by decide +kernel
theorem dX12_reads_177 : decode cX12_reads 177 = .ok (.getfield 152, 3) := by decide +kernel
theorem dX12_reads_180 : decode cX12_reads 180 = .ok (.ireturn, 1) := by decide +kernel
theorem dX12_reads_181 : decode cX12_reads 181 = .ok (.iinc 3 1, 3) := by decide +kernel
theorem dX12_reads_184 : decode cX12_reads 184 = .ok (.goto (-61), 3) := by decide +kernel
theorem dX12_reads_187 : decode cX12_reads 187 = .ok (.aload_n 0, 1) := by decide +kernel
theorem dX12_reads_188 : decode cX12_reads 188 = .ok (.getfield 152, 3) := by decide +kernel
theorem dX12_reads_191 : decode cX12_reads 191 = .ok (.aload_n 0, 1) := by decide +kernel
theorem dX12_reads_192 : decode cX12_reads 192 = .ok (.getfield 50, 3) := by decide +kernel
theorem dX12_reads_195 : decode cX12_reads 195 = .ok (.iload_n 1, 1) := by decide +kernel
theorem dX12_reads_196 : decode cX12_reads 196 = .ok (.iaload, 1) := by decide +kernel
theorem dX12_reads_197 : decode cX12_reads 197 = .ok (.if_icmp .ne 7, 3) := by decide +kernel
theorem dX12_reads_200 : decode cX12_reads 200 = .ok (.iconst (-1), 1) := by decide +kernel
theorem dX12_reads_201 : decode cX12_reads 201 = .ok (.goto 7, 3) := by decide +kernel
theorem dX12_reads_204 : decode cX12_reads 204 = .ok (.aload_n 0, 1) := by decide +kernel
theorem dX12_reads_205 : decode cX12_reads 205 = .ok (.getfield 152, 3) := by decide +kernel
theorem dX12_reads_208 : decode cX12_reads 208 = .ok (.ireturn, 1) := by decide +kernel
theorem dX12_fault_0 : decode cX12_fault 0 = .ok (.iload_n 1, 1) := by decide +kernel
theorem dX12_fault_1 : decode cX12_fault 1 = .ok (.invokestatic 147, 3) := by decide +kernel
theorem dX12_fault_4 : decode cX12_fault 4 = .ok (.ifCond .eq 11, 3) := by decide +kernel
theorem dX12_fault_7 : decode cX12_fault 7 = .ok (.aload_n 0, 1) := by decide +kernel
theorem dX12_fault_8 : decode cX12_fault 8 = .ok (.iload_n 1, 1) := by decide +kernel
theorem dX12_fault_9 : decode cX12_fault 9 = .ok (.invokevirtual 173, 3) := by decide +kernel
theorem dX12_fault_12 : decode cX12_fault 12 = .ok (.goto 5, 3) := by decide +kernel
theorem dX12_fault_15 : decode cX12_fault 15 = .ok (.bipush (-2), 2) := by decide +kernel
theorem dX12_fault_17 : decode cX12_fault 17 = .ok (.ireturn, 1) := by decide +kernel
theorem dX12_canBe_0 : decode cX12_canBe 0 = .ok (.aload_n 0, 1) := by decide +kernel
theorem dX12_canBe_1 : decode cX12_canBe 1 = .ok (.iload_n 1, 1) := by decide +kernel
theorem dX12_canBe_2 : decode cX12_canBe 2 = .ok (.invokevirtual 173, 3) := by decide +kernel
theorem dX12_canBe_5 : decode cX12_canBe 5 = .ok (.iconst (-1), 1) := by decide +kernel
theorem dX12_canBe_6 : decode cX12_canBe 6 = .ok (.if_icmp .eq 5, 3) := by decide +kernel
theorem dX12_canBe_9 : decode cX12_canBe 9 = .ok (.iconst 0, 1) := by decide +kernel
theorem dX12_canBe_10 : decode cX12_canBe 10 = .ok (.ireturn, 1) := by decide +kernel
theorem dX12_canBe_11 : decode cX12_canBe 11 = .ok (.aload_n 0, 1) := by decide +kernel
theorem dX12_canBe_12 : decode cX12_canBe 12 = .ok (.getfield 53, 3) := by decide +kernel
theorem dX12_canBe_15 : decode cX12_canBe 15 = .ok (.iconst 0, 1) := by decide +kernel
theorem dX12_canBe_16 : decode cX12_canBe 16 = .ok (.iaload, 1) := by decide +kernel
theorem dX12_canBe_17 : decode cX12_canBe 17 = .ok (.istore_n 2, 1) := by decide +kernel
theorem dX12_canBe_18 : decode cX12_canBe 18 = .ok (.aload_n 0, 1) := by decide +kernel
theorem dX12_canBe_19 : decode cX12_canBe 19 = .ok (.getfield 166, 3) := by decide +kernel
theorem dX12_canBe_22 : decode cX12_canBe 22 = .ok (.bipush 97, 2) := by decide +kernel
theorem dX12_canBe_24 : decode cX12_canBe 24 = .ok (.if_icmp .ne 15, 3) := by decide +kernel
theorem dX12_canBe_27 : decode cX12_canBe 27 = .ok (.iload_n 2, 1) := by decide +kernel
theorem dX12_canBe_28 : decode cX12_canBe 28 = .ok (.i2l, 1) := by decide +kernel
theorem dX12_canBe_29 : decode cX12_canBe 29 = .ok (.lconst 1, 1) := by decide +kernel
theorem dX12_canBe_30 : decode cX12_canBe 30 = .ok (.aload_n 0, 1) := by decide +kernel
theorem dX12_canBe_31 : decode cX12_canBe 31 = .ok (.getfield 115, 3) := by decide +kernel
theorem dX12_canBe_34 : decode cX12_canBe 34 = .ok (.i2l, 1) := by decide +kernel
theorem dX12_canBe_35 : decode cX12_canBe 35 = .ok (.invokestatic 92, 3) := by decide +kernel
theorem dX12_canBe_38 : decode cX12_canBe 38 = .ok (.ireturn, 1) := by decide +kernel
theorem dX12_canBe_39 : decode cX12_canBe 39 = .ok (.aload_n 0, 1) := by decide +kernel
theorem dX12_canBe_40 : decode cX12_canBe 40 = .ok (.getfield 166, 3) := by decide +kernel
theorem dX12_canBe_43 : decode cX12_canBe 43 = .ok (.bipush 101, 2) := by decide +kernel
theorem dX12_canBe_45 : decode cX12_canBe 45 = .ok (.if_icmp .ne 13, 3) := by decide +kernel
theorem dX12_canBe_48 : decode cX12_canBe 48 = .ok (.iload_n 2, 1) := by decide +kernel
theorem dX12_canBe_49 : decode cX12_canBe 49 = .ok (.i2l, 1) := by decide +kernel
theorem dX12_canBe_50 : decode cX12_canBe 50 = .ok (.lconst 1, 1) := by decide +kernel
theorem dX12_canBe_51 : decode cX12_canBe 51 = .ok (.ldc2_w 176, 3) := by decide +kernel
theorem dX12_canBe_54 : decode cX12_canBe 54 = .ok (.invokestatic 92, 3) := by decide +kernel
theorem dX12_canBe_57 : decode cX12_canBe 57 = .ok (.ireturn, 1) := by decide +kernel
theorem dX12_canBe_58 : decode cX12_canBe 58 = .ok (.aload_n 0, 1) := by decide +kernel
theorem dX12_canBe_59 : decode cX12_canBe 59 = .ok (.getfield 166, 3) := by decide +kernel
theorem dX12_canBe_62 : decode cX12_canBe 62 = .ok (.bipush 122, 2) := by decide +kernel
theorem dX12_canBe_64 : decode cX12_canBe 64 = .ok (.if_icmp .ne 34, 3) := by decide +kernel
theorem dX12_canBe_67 : decode cX12_canBe 67 = .ok (.aload_n 0, 1) := by decide +kernel
theorem dX12_canBe_68 : decode cX12_canBe 68 = .ok (.iload_n 2, 1) := by decide +kernel
theorem dX12_canBe_69 : decode cX12_canBe 69 = .ok (.ifCond .le 12, 3) := by decide +kernel
theorem dX12_canBe_72 : decode cX12_canBe 72 = .ok (.aload_n 0, 1) := by decide +kernel
theorem dX12_canBe_73 : decode cX12_canBe 73 = .ok (.invokevirtual 178, 3) := by decide +kernel
theorem dX12_canBe_76 : decode cX12_canBe 76 = .ok (.iload_n 2, 1) := by decide +kernel
theorem dX12_canBe_77 : decode cX12_canBe 77 = .ok (.idiv, 1) := by decide +kernel
theorem dX12_canBe_78 : decode cX12_canBe 78 = .ok (.goto 4, 3) := by decide +kernel
theorem dX12_canBe_81 : decode cX12_canBe 81 = .ok (.iconst 0, 1) := by decide +kernel
theorem dX12_canBe_82 : decode cX12_canBe 82 = .ok (.putfield 182, 3) := by decide +kernel
theorem dX12_canBe_85 : decode cX12_canBe 85 = .ok (.aload_n 0, 1) := by decide +kernel
theorem dX12_canBe_86 : decode cX12_canBe 86 = .ok (.getfield 182, 3) := by decide +kernel
theorem dX12_canBe_89 : decode cX12_canBe 89 = .ok (.ifCond .le 7, 3) := by decide +kernel
theorem dX12_canBe_92 : decode cX12_canBe 92 = .ok (.iconst 1, 1) := by decide +kernel
theorem dX12_canBe_93 : decode cX12_canBe 93 = .ok (.goto 4, 3) := by decide +kernel
theorem dX12_canBe_96 : decode cX12_canBe 96 = .ok (.iconst 0, 1) := by decide +kernel
theorem dX12_canBe_97 : decode cX12_canBe 97 = .ok (.ireturn, 1) := by decide +kernel
theorem dX12_canBe_98 : decode cX12_canBe 98 = .ok (.aload_n 0, 1) := by decide +kernel
theorem dX12_canBe_99 : decode cX12_canBe 99 = .ok (.getfield 166, 3) := by decide +kernel
theorem dX12_canBe_102 : decode cX12_canBe 102 = .ok (.bipush 116, 2) := by decide +kernel
theorem dX12_canBe_104 : decode cX12_canBe 104 = .ok (.if_icmp .ne 32, 3) := by decide +kernel
theorem dX12_canBe_107 : decode cX12_canBe 107 = .ok (.iload_n 2, 1) := by decide +kernel
theorem dX12_canBe_108 : decode cX12_canBe 108 = .ok (.i2l, 1) := by decide +kernel
theorem dX12_canBe_109 : decode cX12_canBe 109 = .ok (.lconst 1, 1) := by decide +kernel
theorem dX12_canBe_110 : decode cX12_canBe 110 = .ok (.aload_n 0, 1) := by decide +kernel
theorem dX12_canBe_111 : decode cX12_canBe 111 = .ok (.invokevirtual 185, 3) := by decide +kernel
theorem dX12_canBe_114 : decode cX12_canBe 114 = .ok (.i2l, 1) := by decide +kernel
theorem dX12_canBe_115 : decode cX12_canBe 115 = .ok (.invokestatic 92, 3) := by decide +kernel
theorem dX12_canBe_118 : decode cX12_canBe 118 = .ok (.ifCond .eq 16, 3) := by decide +kernel
theorem dX12_canBe_121 : decode cX12_canBe 121 = .ok (.aload_n 0, 1) := by decide +kernel
theorem dX12_canBe_122 : decode cX12_canBe 122 = .ok (.getfield 53, 3) := by decide +kernel
theorem dX12_canBe_125 : decode cX12_canBe 125 = .ok (.iconst 1, 1) := by decide +kernel
theorem dX12_canBe_126 : decode cX12_canBe 126 = .ok (.iaload, 1) := by decide +kernel
theorem dX12_canBe_127 : decode cX12_canBe 127 = .ok (.ifCond .le 7, 3) := by decide +kernel
theorem dX12_canBe_130 : decode cX12_canBe 130 = .ok (.iconst 1, 1) := by decide +kernel
theorem dX12_canBe_131 : decode cX12_canBe 131 = .ok (.goto 4, 3) := by decide +kernel
theorem dX12_canBe_134 : decode cX12_canBe 134 = .ok (.iconst 0, 1) := by decide +kernel
theorem dX12_canBe_135 : decode cX12_canBe 135 = .ok (.ireturn, 1) := by decide +kernel
theorem dX12_canBe_136 : decode cX12_canBe 136 = .ok (.iconst 1, 1) := by decide +kernel
theorem dX12_canBe_137 : decode cX12_canBe 137 = .ok (.istore_n 3, 1) := by decide +kernel
theorem dX12_canBe_138 : decode cX12_canBe 138 = .ok (.iconst 0, 1) := by decide +kernel
theorem dX12_canBe_139 : decode cX12_canBe 139 = .ok (.istore 4, 2) := by decide +kernel
theorem dX12_canBe_141 : decode cX12_canBe 141 = .ok (.iload 4, 2) := by decide +kernel
theorem dX12_canBe_143 : decode cX12_canBe 143 = .ok (.iconst 4, 1) := by decide +kernel
theorem dX12_canBe_144 : decode cX12_canBe 144 = .ok (.if_icmp .ge 36, 3) := by decide +kernel
theorem dX12_canBe_147 : decode cX12_canBe 147 = .ok (.iload_n 3, 1) := by decide +kernel
theorem dX12_canBe_148 : decode cX12_canBe 148 = .ok (.ifCond .eq 24, 3) := by decide +kernel
theorem dX12_canBe_151 : decode cX12_canBe 151 = .ok (.aload_n 0, 1) := by decide +kernel
theorem dX12_canBe_152 : decode cX12_canBe 152 = .ok (.getfield 53, 3) := by decide +kernel
theorem dX12_canBe_155 : decode cX12_canBe 155 = .ok (.iload 4, 2) := by decide +kernel
theorem dX12_canBe_157 : decode cX12_canBe 157 = .ok (.iaload, 1) := by decide +kernel
theorem dX12_canBe_158 : decode cX12_canBe 158 = .ok (.aload_n 0, 1) := by decide +kernel
theorem dX12_canBe_159 : decode cX12_canBe 159 = .ok (.iconst 0, 1) := by decide +kernel
theorem dX12_canBe_160 : decode cX12_canBe 160 = .ok (.iload 4, 2) := by decide +kernel
theorem dX12_canBe_162 : decode cX12_canBe 162 = .ok (.invokevirtual 144, 3) := by decide +kernel
theorem dX12_canBe_165 : decode cX12_canBe 165 = .ok (.if_icmp .gt 7, 3) := by decide +kernel
theorem dX12_canBe_168 : decode cX12_canBe 168 = .ok (.iconst 1, 1) := by decide +kernel
theorem dX12_canBe_169 : decode cX12_canBe 169 = .ok (.goto 4, 3) := by decide +kernel
theorem dX12_canBe_172 : decode cX12_canBe 172 = .ok (.iconst 0, 1) := by decide +kernel
theorem dX12_canBe_173 : decode cX12_canBe 173 = .ok (.istore_n 3, 1) := by decide +kernel
theorem dX12_canBe_174 : decode cX12_canBe 174 = .ok (.iinc 4 1, 3) := by decide +kernel
theorem dX12_canBe_177 : decode cX12_canBe 177 = .ok (.goto (-36), 3) := by decide +kernel
theorem dX12_canBe_180 : decode cX12_canBe 180 = .ok (.iload_n 3, 1) := by decide +kernel
theorem dX12_canBe_181 : decode cX12_canBe 181 = .ok (.ifCond .eq 37, 3) := by decide +kernel
theorem dX12_canBe_184 : decode cX12_canBe 184 = .ok (.aload_n 0, 1) := by decide +kernel
theorem dX12_canBe_185 : decode cX12_canBe 185 = .ok (.getfield 53, 3) := by decide +kernel
theorem dX12_canBe_188 : decode cX12_canBe 188 = .ok (.iconst 0, 1) := by decide +kernel
theorem dX12_canBe_189 : decode cX12_canBe 189 = .ok (.iaload, 1) := by decide +kernel
theorem dX12_canBe_190 : decode cX12_canBe 190 = .ok (.aload_n 0, 1) := by decide +kernel
theorem dX12_canBe_191 : decode cX12_canBe 191 = .ok (.getfield 53, 3) := by decide +kernel
theorem dX12_canBe_194 : decode cX12_canBe 194 = .ok (.iconst 1, 1) := by decide +kernel
theorem dX12_canBe_195 : decode cX12_canBe 195 = .ok (.iaload, 1) := by decide +kernel
theorem dX12_canBe_196 : decode cX12_canBe 196 = .ok (.iadd, 1) := by decide +kernel
theorem dX12_canBe_197 : decode cX12_canBe 197 = .ok (.aload_n 0, 1) := by decide +kernel
theorem dX12_canBe_198 : decode cX12_canBe 198 = .ok (.getfield 53, 3) := by decide +kernel
theorem dX12_canBe_201 : decode cX12_canBe 201 = .ok (.iconst 2, 1) := by decide +kernel
theorem dX12_canBe_202 : decode cX12_canBe 202 = .ok (.iaload, 1) := by decide +kernel
theorem dX12_canBe_203 : decode cX12_canBe 203 = .ok (.iadd, 1) := by decide +kernel
theorem dX12_canBe_204 : decode cX12_canBe 204 = .ok (.aload_n 0, 1) := by decide +kernel
theorem dX12_canBe_205 : decode cX12_canBe 205 = .ok (.getfield 53, 3) := by decide +kernel
theorem dX12_canBe_208 : decode cX12_canBe 208 = .ok (.iconst 3, 1) := by decide +kernel
theorem dX12_canBe_209 : decode cX12_canBe 209 = .ok (.iaload, 1) := by decide +kernel
theorem dX12_canBe_210 : decode cX12_canBe 210 = .ok (.iadd, 1) := by decide +kernel
theorem dX12_canBe_211 : decode cX12_canBe 211 = .ok (.ifCond .le 7, 3) := by decide +kernel
theorem dX12_canBe_214 : decode cX12_canBe 214 = .ok (.iconst 1, 1) := by decide +kernel
theorem dX12_canBe_215 : decode cX12_canBe 215 = .ok (.goto 4, 3) := by decide +kernel
theorem dX12_canBe_218 : decode cX12_canBe 218 = .ok (.iconst 0, 1) := by decide +kernel
theorem dX12_canBe_219 : decode cX12_canBe 219 = .ok (.ireturn, 1) := by decide +kernel
theorem dX12_can_0 : decode cX12_can 0 = .ok (.iload_n 1, 1) := by decide +kernel
theorem dX12_can_1 : decode cX12_can 1 = .ok (.invokestatic 147, 3) := by decide +kernel
theorem dX12_can_4 : decode cX12_can 4 = .ok (.ifCond .eq 19, 3) := by decide +kernel
theorem dX12_can_7 : decode cX12_can 7 = .ok (.aload_n 0, 1) := by decide +kernel
theorem dX12_can_8 : decode cX12_can 8 = .ok (.iload_n 1, 1) := by decide +kernel
theorem dX12_can_9 : decode cX12_can 9 = .ok (.invokevirtual 188, 3) := by decide +kernel
theorem dX12_can_12 : decode cX12_can 12 = .ok (.ifCond .eq 7, 3) := by decide +kernel
theorem dX12_can_15 : decode cX12_can 15 = .ok (.iconst 1, 1) := by decide +kernel
theorem dX12_can_16 : decode cX12_can 16 = .ok (.goto 9, 3) := by decide +kernel
theorem dX12_can_19 : decode cX12_can 19 = .ok (.iconst 0, 1) := by decide +kernel
theorem dX12_can_20 : decode cX12_can 20 = .ok (.goto 5, 3) := by decide +kernel
theorem dX12_can_23 : decode cX12_can 23 = .ok (.bipush (-2), 2) := by decide +kernel
theorem dX12_can_25 : decode cX12_can 25 = .ok (.ireturn, 1) := by decide +kernel
theorem dX12_over_0 : decode cX12_over 0 = .ok (.iload_n 1, 1) := by decide +kernel
theorem dX12_over_1 : decode cX12_over 1 = .ok (.ifCond .lt 8, 3) := by decide +kernel
theorem dX12_over_4 : decode cX12_over 4 = .ok (.iload_n 1, 1) := by decide +kernel
theorem dX12_over_5 : decode cX12_over 5 = .ok (.iload_n 0, 1) := by decide +kernel
theorem dX12_over_6 : decode cX12_over 6 = .ok (.if_icmp .le 5, 3) := by decide +kernel
theorem dX12_over_9 : decode cX12_over 9 = .ok (.lconst 0, 1) := by decide +kernel
theorem dX12_over_10 : decode cX12_over 10 = .ok (.lreturn, 1) := by decide +kernel
theorem dX12_over_11 : decode cX12_over 11 = .ok (.lconst 1, 1) := by decide +kernel
theorem dX12_over_12 : decode cX12_over 12 = .ok (.lstore_n 2, 1) := by decide +kernel
theorem dX12_over_13 : decode cX12_over 13 = .ok (.iconst 0, 1) := by decide +kernel
theorem dX12_over_14 : decode cX12_over 14 = .ok (.istore 4, 2) := by decide +kernel
theorem dX12_over_16 : decode cX12_over 16 = .ok (.iload 4, 2) := by decide +kernel
theorem dX12_over_18 : decode cX12_over 18 = .ok (.iload_n 1, 1) := by decide +kernel
theorem dX12_over_19 : decode cX12_over 19 = .ok (.if_icmp .ge 23, 3) := by decide +kernel
theorem dX12_over_22 : decode cX12_over 22 = .ok (.lload_n 2, 1) := by decide +kernel
theorem dX12_over_23 : decode cX12_over 23 = .ok (.iload_n 0, 1) := by decide +kernel
theorem dX12_over_24 : decode cX12_over 24 = .ok (.iload 4, 2) := by decide +kernel
theorem dX12_over_26 : decode cX12_over 26 = .ok (.isub, 1) := by decide +kernel
theorem dX12_over_27 : decode cX12_over 27 = .ok (.i2l, 1) := by decide +kernel
theorem dX12_over_28 : decode cX12_over 28 = .ok (.lmul, 1) := by decide +kernel
theorem dX12_over_29 : decode cX12_over 29 = .ok (.iload 4, 2) := by decide +kernel
theorem dX12_over_31 : decode cX12_over 31 = .ok (.iconst 1, 1) := by decide +kernel
theorem dX12_over_32 : decode cX12_over 32 = .ok (.iadd, 1) := by decide +kernel
theorem dX12_over_33 : decode cX12_over 33 = .ok (.i2l, 1) := by decide +kernel
theorem dX12_over_34 : decode cX12_over 34 = .ok (.ldiv, 1) := by decide +kernel
theorem dX12_over_35 : decode cX12_over 35 = .ok (.lstore_n 2, 1) := by decide +kernel
theorem dX12_over_36 : decode cX12_over 36 = .ok (.iinc 4 1, 3) := by decide +kernel
theorem dX12_over_39 : decode cX12_over 39 = .ok (.goto (-23), 3) := by decide +kernel
theorem dX12_over_42 : decode cX12_over 42 = .ok (.lload_n 2, 1) := by decide +kernel
theorem dX12_over_43 : decode cX12_over 43 = .ok (.lreturn, 1) := by decide +kernel
theorem dX12_ofCluster_0 : decode cX12_ofCluster 0 = .ok (.aload_n 0, 1) := by decide +kernel
theorem dX12_ofCluster_1 : decode cX12_ofCluster 1 = .ok (.iconst 1, 1) := by decide +kernel
theorem dX12_ofCluster_2 : decode cX12_ofCluster 2 = .ok (.iload_n 1, 1) := by decide +kernel
theorem dX12_ofCluster_3 : decode cX12_ofCluster 3 = .ok (.invokevirtual 144, 3) := by decide +kernel
theorem dX12_ofCluster_6 : decode cX12_ofCluster 6 = .ok (.istore_n 2, 1) := by decide +kernel
theorem dX12_ofCluster_7 : decode cX12_ofCluster 7 = .ok (.aload_n 0, 1) := by decide +kernel
theorem dX12_ofCluster_8 : decode cX12_ofCluster 8 = .ok (.getfield 53, 3) := by decide +kernel
theorem dX12_ofCluster_11 : decode cX12_ofCluster 11 = .ok (.iconst 1, 1) := by decide +kernel
theorem dX12_ofCluster_12 : decode cX12_ofCluster 12 = .ok (.iaload, 1) := by decide +kernel
theorem dX12_ofCluster_13 : decode cX12_ofCluster 13 = .ok (.iload_n 2, 1) := by decide +kernel
theorem dX12_ofCluster_14 : decode cX12_ofCluster 14 = .ok (.if_icmp .ge 12, 3) := by decide +kernel
theorem dX12_ofCluster_17 : decode cX12_ofCluster 17 = .ok (.aload_n 0, 1) := by decide +kernel
theorem dX12_ofCluster_18 : decode cX12_ofCluster 18 = .ok (.getfield 53, 3) := by decide +kernel
theorem dX12_ofCluster_21 : decode cX12_ofCluster 21 = .ok (.iconst 1, 1) := by decide +kernel
theorem dX12_ofCluster_22 : decode cX12_ofCluster 22 = .ok (.iaload, 1) := by decide +kernel
theorem dX12_ofCluster_23 : decode cX12_ofCluster 23 = .ok (.goto 4, 3) := by decide +kernel
theorem dX12_ofCluster_26 : decode cX12_ofCluster 26 = .ok (.iload_n 2, 1) := by decide +kernel
theorem dX12_ofCluster_27 : decode cX12_ofCluster 27 = .ok (.ireturn, 1) := by decide +kernel
theorem dX12_drawsNow_0 : decode cX12_drawsNow 0 = .ok (.aload_n 0, 1) := by decide +kernel
theorem dX12_drawsNow_1 : decode cX12_drawsNow 1 = .ok (.getfield 166, 3) := by decide +kernel
theorem dX12_drawsNow_4 : decode cX12_drawsNow 4 = .ok (.bipush 97, 2) := by decide +kernel
theorem dX12_drawsNow_6 : decode cX12_drawsNow 6 = .ok (.if_icmp .ne 17, 3) := by decide +kernel
theorem dX12_drawsNow_9 : decode cX12_drawsNow 9 = .ok (.aload_n 0, 1) := by decide +kernel
theorem dX12_drawsNow_10 : decode cX12_drawsNow 10 = .ok (.getfield 115, 3) := by decide +kernel
theorem dX12_drawsNow_13 : decode cX12_drawsNow 13 = .ok (.aload_n 0, 1) := by decide +kernel
theorem dX12_drawsNow_14 : decode cX12_drawsNow 14 = .ok (.getfield 53, 3) := by decide +kernel
theorem dX12_drawsNow_17 : decode cX12_drawsNow 17 = .ok (.iconst 0, 1) := by decide +kernel
theorem dX12_drawsNow_18 : decode cX12_drawsNow 18 = .ok (.iaload, 1) := by decide +kernel
theorem dX12_drawsNow_19 : decode cX12_drawsNow 19 = .ok (.invokestatic 191, 3) := by decide +kernel
theorem dX12_drawsNow_22 : decode cX12_drawsNow 22 = .ok (.lreturn, 1) := by decide +kernel
theorem dX12_drawsNow_23 : decode cX12_drawsNow 23 = .ok (.aload_n 0, 1) := by decide +kernel
theorem dX12_drawsNow_24 : decode cX12_drawsNow 24 = .ok (.getfield 166, 3) := by decide +kernel
theorem dX12_drawsNow_27 : decode cX12_drawsNow 27 = .ok (.bipush 101, 2) := by decide +kernel
theorem dX12_drawsNow_29 : decode cX12_drawsNow 29 = .ok (.if_icmp .ne 11, 3) := by decide +kernel
theorem dX12_drawsNow_32 : decode cX12_drawsNow 32 = .ok (.aload_n 0, 1) := by decide +kernel
theorem dX12_drawsNow_33 : decode cX12_drawsNow 33 = .ok (.getfield 53, 3) := by decide +kernel
theorem dX12_drawsNow_36 : decode cX12_drawsNow 36 = .ok (.iconst 0, 1) := by decide +kernel
theorem dX12_drawsNow_37 : decode cX12_drawsNow 37 = .ok (.iaload, 1) := by decide +kernel
theorem dX12_drawsNow_38 : decode cX12_drawsNow 38 = .ok (.i2l, 1) := by decide +kernel
theorem dX12_drawsNow_39 : decode cX12_drawsNow 39 = .ok (.lreturn, 1) := by decide +kernel
theorem dX12_drawsNow_40 : decode cX12_drawsNow 40 = .ok (.aload_n 0, 1) := by decide +kernel
theorem dX12_drawsNow_41 : decode cX12_drawsNow 41 = .ok (.getfield 166, 3) := by decide +kernel
theorem dX12_drawsNow_44 : decode cX12_drawsNow 44 = .ok (.bipush 122, 2) := by decide +kernel
theorem dX12_drawsNow_46 : decode cX12_drawsNow 46 = .ok (.if_icmp .ne 9, 3) := by decide +kernel
theorem dX12_drawsNow_49 : decode cX12_drawsNow 49 = .ok (.aload_n 0, 1) := by decide +kernel
theorem dX12_drawsNow_50 : decode cX12_drawsNow 50 = .ok (.getfield 182, 3) := by decide +kernel
theorem dX12_drawsNow_53 : decode cX12_drawsNow 53 = .ok (.i2l, 1) := by decide +kernel
theorem dX12_drawsNow_54 : decode cX12_drawsNow 54 = .ok (.lreturn, 1) := by decide +kernel
theorem dX12_drawsNow_55 : decode cX12_drawsNow 55 = .ok (.aload_n 0, 1) := by decide +kernel
theorem dX12_drawsNow_56 : decode cX12_drawsNow 56 = .ok (.getfield 166, 3) := by decide +kernel
theorem dX12_drawsNow_59 : decode cX12_drawsNow 59 = .ok (.bipush 108, 2) := by decide +kernel
theorem dX12_drawsNow_61 : decode cX12_drawsNow 61 = .ok (.if_icmp .ne 38, 3) := by decide +kernel
theorem dX12_drawsNow_64 : decode cX12_drawsNow 64 = .ok (.lconst 1, 1) := by decide +kernel
theorem dX12_drawsNow_65 : decode cX12_drawsNow 65 = .ok (.lstore_n 1, 1) := by decide +kernel
theorem dX12_drawsNow_66 : decode cX12_drawsNow 66 = .ok (.iconst 0, 1) := by decide +kernel
theorem dX12_drawsNow_67 : decode cX12_drawsNow 67 = .ok (.istore_n 3, 1) := by decide +kernel
theorem dX12_drawsNow_68 : decode cX12_drawsNow 68 = .ok (.iload_n 3, 1) := by decide +kernel
theorem dX12_drawsNow_69 : decode cX12_drawsNow 69 = .ok (.iconst 4, 1) := by decide +kernel
theorem dX12_drawsNow_70 : decode cX12_drawsNow 70 = .ok (.if_icmp .ge 27, 3) := by decide +kernel
theorem dX12_drawsNow_73 : decode cX12_drawsNow 73 = .ok (.lload_n 1, 1) := by decide +kernel
theorem dX12_drawsNow_74 : decode cX12_drawsNow 74 = .ok (.aload_n 0, 1) := by decide +kernel
theorem dX12_drawsNow_75 : decode cX12_drawsNow 75 = .ok (.iconst 0, 1) := by decide +kernel
theorem dX12_drawsNow_76 : decode cX12_drawsNow 76 = .ok (.iload_n 3, 1) := by decide +kernel
theorem dX12_drawsNow_77 : decode cX12_drawsNow 77 = .ok (.invokevirtual 144, 3) := by decide +kernel
theorem dX12_drawsNow_80 : decode cX12_drawsNow 80 = .ok (.aload_n 0, 1) := by decide +kernel
theorem dX12_drawsNow_81 : decode cX12_drawsNow 81 = .ok (.getfield 53, 3) := by decide +kernel
theorem dX12_drawsNow_84 : decode cX12_drawsNow 84 = .ok (.iload_n 3, 1) := by decide +kernel
theorem dX12_drawsNow_85 : decode cX12_drawsNow 85 = .ok (.iaload, 1) := by decide +kernel
theorem dX12_drawsNow_86 : decode cX12_drawsNow 86 = .ok (.invokestatic 191, 3) := by decide +kernel
theorem dX12_drawsNow_89 : decode cX12_drawsNow 89 = .ok (.lmul, 1) := by decide +kernel
theorem dX12_drawsNow_90 : decode cX12_drawsNow 90 = .ok (.lstore_n 1, 1) := by decide +kernel
theorem dX12_drawsNow_91 : decode cX12_drawsNow 91 = .ok (.iinc 3 1, 3) := by decide +kernel
theorem dX12_drawsNow_94 : decode cX12_drawsNow 94 = .ok (.goto (-26), 3) := by decide +kernel
theorem dX12_drawsNow_97 : decode cX12_drawsNow 97 = .ok (.lload_n 1, 1) := by decide +kernel
theorem dX12_drawsNow_98 : decode cX12_drawsNow 98 = .ok (.lreturn, 1) := by decide +kernel
theorem dX12_drawsNow_99 : decode cX12_drawsNow 99 = .ok (.iconst 0, 1) := by decide +kernel
theorem dX12_drawsNow_100 : decode cX12_drawsNow 100 = .ok (.istore_n 1, 1) := by decide +kernel
theorem dX12_drawsNow_101 : decode cX12_drawsNow 101 = .ok (.iload_n 1, 1) := by decide +kernel
theorem dX12_drawsNow_102 : decode cX12_drawsNow 102 = .ok (.bipush 9, 2) := by decide +kernel
theorem dX12_drawsNow_104 : decode cX12_drawsNow 104 = .ok (.if_icmp .ge 24, 3) := by decide +kernel
theorem dX12_drawsNow_107 : decode cX12_drawsNow 107 = .ok (.aload_n 0, 1) := by decide +kernel
theorem dX12_drawsNow_108 : decode cX12_drawsNow 108 = .ok (.getfield 59, 3) := by decide +kernel
theorem dX12_drawsNow_111 : decode cX12_drawsNow 111 = .ok (.iload_n 1, 1) := by decide +kernel
theorem dX12_drawsNow_112 : decode cX12_drawsNow 112 = .ok (.iload_n 1, 1) := by decide +kernel
theorem dX12_drawsNow_113 : decode cX12_drawsNow 113 = .ok (.ifCond .ne 7, 3) := by decide +kernel
theorem dX12_drawsNow_116 : decode cX12_drawsNow 116 = .ok (.lconst 1, 1) := by decide +kernel
theorem dX12_drawsNow_117 : decode cX12_drawsNow 117 = .ok (.goto 4, 3) := by decide +kernel
theorem dX12_drawsNow_120 : decode cX12_drawsNow 120 = .ok (.lconst 0, 1) := by decide +kernel
theorem dX12_drawsNow_121 : decode cX12_drawsNow 121 = .ok (.lastore, 1) := by decide +kernel
theorem dX12_drawsNow_122 : decode cX12_drawsNow 122 = .ok (.iinc 1 1, 3) := by decide +kernel
theorem dX12_drawsNow_125 : decode cX12_drawsNow 125 = .ok (.goto (-24), 3) := by decide +kernel
theorem dX12_drawsNow_128 : decode cX12_drawsNow 128 = .ok (.iconst 0, 1) := by decide +kernel
theorem dX12_drawsNow_129 : decode cX12_drawsNow 129 = .ok (.istore_n 1, 1) := by decide +kernel
theorem dX12_drawsNow_130 : decode cX12_drawsNow 130 = .ok (.iload_n 1, 1) := by decide +kernel
theorem dX12_drawsNow_131 : decode cX12_drawsNow 131 = .ok (.bipush 8, 2) := by decide +kernel
theorem dX12_drawsNow_133 : decode cX12_drawsNow 133 = .ok (.if_icmp .ge 60, 3) := by decide +kernel
theorem dX12_drawsNow_136 : decode cX12_drawsNow 136 = .ok (.aload_n 0, 1) := by decide +kernel
theorem dX12_drawsNow_137 : decode cX12_drawsNow 137 = .ok (.iconst 1, 1) := by decide +kernel
theorem dX12_drawsNow_138 : decode cX12_drawsNow 138 = .ok (.iload_n 1, 1) := by decide +kernel
theorem dX12_drawsNow_139 : decode cX12_drawsNow 139 = .ok (.invokevirtual 144, 3) := by decide +kernel
theorem dX12_drawsNow_142 : decode cX12_drawsNow 142 = .ok (.istore_n 2, 1) := by decide +kernel
theorem dX12_drawsNow_143 : decode cX12_drawsNow 143 = .ok (.bipush 8, 2) := by decide +kernel
theorem dX12_drawsNow_145 : decode cX12_drawsNow 145 = .ok (.istore_n 3, 1) := by decide +kernel
theorem dX12_drawsNow_146 : decode cX12_drawsNow 146 = .ok (.iload_n 3, 1) := by decide +kernel
theorem dX12_drawsNow_147 : decode cX12_drawsNow 147 = .ok (.ifCond .le 40, 3) := by decide +kernel
theorem dX12_drawsNow_150 : decode cX12_drawsNow 150 = .ok (.iload_n 2, 1) := by decide +kernel
theorem dX12_drawsNow_151 : decode cX12_drawsNow 151 = .ok (.ifCond .le 36, 3) := by decide +kernel
theorem dX12_drawsNow_154 : decode cX12_drawsNow 154 = .ok (.aload_n 0, 1) := by decide +kernel
theorem dX12_drawsNow_155 : decode cX12_drawsNow 155 = .ok (.getfield 59, 3) := by decide +kernel
theorem dX12_drawsNow_158 : decode cX12_drawsNow 158 = .ok (.iload_n 3, 1) := by decide +kernel
theorem dX12_drawsNow_159 : decode cX12_drawsNow 159 = .ok (.dup2, 1) := by decide +kernel
theorem dX12_drawsNow_160 : decode cX12_drawsNow 160 = .ok (.laload, 1) := by decide +kernel
theorem dX12_drawsNow_161 : decode cX12_drawsNow 161 = .ok (.aload_n 0, 1) := by decide +kernel
theorem dX12_drawsNow_162 : decode cX12_drawsNow 162 = .ok (.getfield 59, 3) := by decide +kernel
theorem dX12_drawsNow_165 : decode cX12_drawsNow 165 = .ok (.iload_n 3, 1) := by decide +kernel
theorem dX12_drawsNow_166 : decode cX12_drawsNow 166 = .ok (.iconst 1, 1) := by decide +kernel
theorem dX12_drawsNow_167 : decode cX12_drawsNow 167 = .ok (.isub, 1) := by decide +kernel
theorem dX12_drawsNow_168 : decode cX12_drawsNow 168 = .ok (.laload, 1) := by decide +kernel
theorem dX12_drawsNow_169 : decode cX12_drawsNow 169 = .ok (.iload_n 2, 1) := by decide +kernel
theorem dX12_drawsNow_170 : decode cX12_drawsNow 170 = .ok (.aload_n 0, 1) := by decide +kernel
theorem dX12_drawsNow_171 : decode cX12_drawsNow 171 = .ok (.iload_n 1, 1) := by decide +kernel
theorem dX12_drawsNow_172 : decode cX12_drawsNow 172 = .ok (.invokevirtual 195, 3) := by decide +kernel
theorem dX12_drawsNow_175 : decode cX12_drawsNow 175 = .ok (.invokestatic 191, 3) := by decide +kernel
theorem dX12_drawsNow_178 : decode cX12_drawsNow 178 = .ok (.lmul, 1) := by decide +kernel
theorem dX12_drawsNow_179 : decode cX12_drawsNow 179 = .ok (.ladd, 1) := by decide +kernel
theorem dX12_drawsNow_180 : decode cX12_drawsNow 180 = .ok (.lastore, 1) := by decide +kernel
theorem dX12_drawsNow_181 : decode cX12_drawsNow 181 = .ok (.iinc 3 (-1), 3) := by decide +kernel
theorem dX12_drawsNow_184 : decode cX12_drawsNow 184 = .ok (.goto (-38), 3) := by decide +kernel
theorem dX12_drawsNow_187 : decode cX12_drawsNow 187 = .ok (.iinc 1 1, 3) := by decide +kernel
theorem dX12_drawsNow_190 : decode cX12_drawsNow 190 = .ok (.goto (-60), 3) := by decide +kernel
theorem dX12_drawsNow_193 : decode cX12_drawsNow 193 = .ok (.aload_n 0, 1) := by decide +kernel
theorem dX12_drawsNow_194 : decode cX12_drawsNow 194 = .ok (.getfield 59, 3) := by decide +kernel
theorem dX12_drawsNow_197 : decode cX12_drawsNow 197 = .ok (.aload_n 0, 1) := by decide +kernel
theorem dX12_drawsNow_198 : decode cX12_drawsNow 198 = .ok (.getfield 53, 3) := by decide +kernel
theorem dX12_drawsNow_201 : decode cX12_drawsNow 201 = .ok (.iconst 0, 1) := by decide +kernel
theorem dX12_drawsNow_202 : decode cX12_drawsNow 202 = .ok (.iaload, 1) := by decide +kernel
theorem dX12_drawsNow_203 : decode cX12_drawsNow 203 = .ok (.laload, 1) := by decide +kernel
theorem dX12_drawsNow_204 : decode cX12_drawsNow 204 = .ok (.lreturn, 1) := by decide +kernel
theorem dX12_draws_0 : decode cX12_draws 0 = .ok (.iload_n 1, 1) := by decide +kernel
theorem dX12_draws_1 : decode cX12_draws 1 = .ok (.invokestatic 147, 3) := by decide +kernel
theorem dX12_draws_4 : decode cX12_draws 4 = .ok (.ifCond .ne 9, 3) := by decide +kernel
theorem dX12_draws_7 : decode cX12_draws 7 = .ok (.bipush (-2), 2) := by decide +kernel
theorem dX12_draws_9 : decode cX12_draws 9 = .ok (.invokestatic 198, 3) := by decide +kernel
theorem dX12_draws_12 : decode cX12_draws 12 = .ok (.lreturn, 1) := by decide +kernel
theorem dX12_draws_13 : decode cX12_draws 13 = .ok (.aload_n 0, 1) := by decide +kernel
theorem dX12_draws_14 : decode cX12_draws 14 = .ok (.iload_n 1, 1) := by decide +kernel
theorem dX12_draws_15 : decode cX12_draws 15 = .ok (.invokevirtual 188, 3) := by decide +kernel
theorem dX12_draws_18 : decode cX12_draws 18 = .ok (.ifCond .eq 10, 3) := by decide +kernel
theorem dX12_draws_21 : decode cX12_draws 21 = .ok (.aload_n 0, 1) := by decide +kernel
theorem dX12_draws_22 : decode cX12_draws 22 = .ok (.invokevirtual 202, 3) := by decide +kernel
theorem dX12_draws_25 : decode cX12_draws 25 = .ok (.goto 8, 3) := by decide +kernel
theorem dX12_draws_28 : decode cX12_draws 28 = .ok (.bipush (-3), 2) := by decide +kernel
theorem dX12_draws_30 : decode cX12_draws 30 = .ok (.invokestatic 198, 3) := by decide +kernel
theorem dX12_draws_33 : decode cX12_draws 33 = .ok (.lreturn, 1) := by decide +kernel
theorem dX12_common_0 : decode cX12_common 0 = .ok (.lload_n 0, 1) := by decide +kernel
theorem dX12_common_1 : decode cX12_common 1 = .ok (.lstore 4, 2) := by decide +kernel
theorem dX12_common_3 : decode cX12_common 3 = .ok (.lload_n 2, 1) := by decide +kernel
theorem dX12_common_4 : decode cX12_common 4 = .ok (.lstore 6, 2) := by decide +kernel
theorem dX12_common_6 : decode cX12_common 6 = .ok (.lload 6, 2) := by decide +kernel
theorem dX12_common_8 : decode cX12_common 8 = .ok (.lconst 0, 1) := by decide +kernel
theorem dX12_common_9 : decode cX12_common 9 = .ok (.lcmp, 1) := by decide +kernel
theorem dX12_common_10 : decode cX12_common 10 = .ok (.ifCond .eq 21, 3) := by decide +kernel
theorem dX12_common_13 : decode cX12_common 13 = .ok (.lload 4, 2) := by decide +kernel
theorem dX12_common_15 : decode cX12_common 15 = .ok (.lload 6, 2) := by decide +kernel
theorem dX12_common_17 : decode cX12_common 17 = .ok (.lrem, 1) := by decide +kernel
theorem dX12_common_18 : decode cX12_common 18 = .ok (.lstore 8, 2) := by decide +kernel
theorem dX12_common_20 : decode cX12_common 20 = .ok (.lload 6, 2) := by decide +kernel
theorem dX12_common_22 : decode cX12_common 22 = .ok (.lstore 4, 2) := by decide +kernel
theorem dX12_common_24 : decode cX12_common 24 = .ok (.lload 8, 2) := by decide +kernel
theorem dX12_common_26 : decode cX12_common 26 = .ok (.lstore 6, 2) := by decide +kernel
theorem dX12_common_28 : decode cX12_common 28 = .ok (.goto (-22), 3) := by decide +kernel
theorem dX12_common_31 : decode cX12_common 31 = .ok (.lload 4, 2) := by decide +kernel
theorem dX12_common_33 : decode cX12_common 33 = .ok (.lreturn, 1) := by decide +kernel
theorem dX12_becomes_0 : decode cX12_becomes 0 = .ok (.lload_n 1, 1) := by decide +kernel
theorem dX12_becomes_1 : decode cX12_becomes 1 = .ok (.lload_n 3, 1) := by decide +kernel
theorem dX12_becomes_2 : decode cX12_becomes 2 = .ok (.invokestatic 206, 3) := by decide +kernel
theorem dX12_becomes_5 : decode cX12_becomes 5 = .ok (.lstore 5, 2) := by decide +kernel
theorem dX12_becomes_7 : decode cX12_becomes 7 = .ok (.aload_n 0, 1) := by decide +kernel
theorem dX12_becomes_8 : decode cX12_becomes 8 = .ok (.lload_n 1, 1) := by decide +kernel
theorem dX12_becomes_9 : decode cX12_becomes 9 = .ok (.lload 5, 2) := by decide +kernel
theorem dX12_becomes_11 : decode cX12_becomes 11 = .ok (.ldiv, 1) := by decide +kernel
theorem dX12_becomes_12 : decode cX12_becomes 12 = .ok (.putfield 210, 3) := by decide +kernel
theorem dX12_becomes_15 : decode cX12_becomes 15 = .ok (.aload_n 0, 1) := by decide +kernel
theorem dX12_becomes_16 : decode cX12_becomes 16 = .ok (.lload_n 3, 1) := by decide +kernel
theorem dX12_becomes_17 : decode cX12_becomes 17 = .ok (.lload 5, 2) := by decide +kernel
theorem dX12_becomes_19 : decode cX12_becomes 19 = .ok (.ldiv, 1) := by decide +kernel
theorem dX12_becomes_20 : decode cX12_becomes 20 = .ok (.putfield 214, 3) := by decide +kernel
theorem dX12_becomes_23 : decode cX12_becomes 23 = .ok (.return_, 1) := by decide +kernel
theorem dX12_drawOf_0 : decode cX12_drawOf 0 = .ok (.iconst 0, 1) := by decide +kernel
theorem dX12_drawOf_1 : decode cX12_drawOf 1 = .ok (.istore_n 2, 1) := by decide +kernel
theorem dX12_drawOf_2 : decode cX12_drawOf 2 = .ok (.iconst 0, 1) := by decide +kernel
theorem dX12_drawOf_3 : decode cX12_drawOf 3 = .ok (.istore_n 3, 1) := by decide +kernel
theorem dX12_drawOf_4 : decode cX12_drawOf 4 = .ok (.iconst 0, 1) := by decide +kernel
theorem dX12_drawOf_5 : decode cX12_drawOf 5 = .ok (.istore 4, 2) := by decide +kernel
theorem dX12_drawOf_7 : decode cX12_drawOf 7 = .ok (.iload 4, 2) := by decide +kernel
theorem dX12_drawOf_9 : decode cX12_drawOf 9 = .ok (.aload_n 0, 1) := by decide +kernel
theorem dX12_drawOf_10 : decode cX12_drawOf 10 = .ok (.getfield 115, 3) := by decide +kernel
theorem dX12_drawOf_13 : decode cX12_drawOf 13 = .ok (.if_icmp .ge 121, 3) := by decide +kernel
theorem dX12_drawOf_16 : decode cX12_drawOf 16 = .ok (.aload_n 0, 1) := by decide +kernel
theorem dX12_drawOf_17 : decode cX12_drawOf 17 = .ok (.getfield 166, 3) := by decide +kernel
theorem dX12_drawOf_20 : decode cX12_drawOf 20 = .ok (.bipush 101, 2) := by decide +kernel
theorem dX12_drawOf_22 : decode cX12_drawOf 22 = .ok (.if_icmp .ne 30, 3) := by decide +kernel
theorem dX12_drawOf_25 : decode cX12_drawOf 25 = .ok (.iload_n 2, 1) := by decide +kernel
theorem dX12_drawOf_26 : decode cX12_drawOf 26 = .ok (.iload 4, 2) := by decide +kernel
theorem dX12_drawOf_28 : decode cX12_drawOf 28 = .ok (.aload_n 0, 1) := by decide +kernel
theorem dX12_drawOf_29 : decode cX12_drawOf 29 = .ok (.getfield 53, 3) := by decide +kernel
theorem dX12_drawOf_32 : decode cX12_drawOf 32 = .ok (.iconst 0, 1) := by decide +kernel
theorem dX12_drawOf_33 : decode cX12_drawOf 33 = .ok (.iaload, 1) := by decide +kernel
theorem dX12_drawOf_34 : decode cX12_drawOf 34 = .ok (.irem, 1) := by decide +kernel
theorem dX12_drawOf_35 : decode cX12_drawOf 35 = .ok (.iload_n 1, 1) := by decide +kernel
theorem dX12_drawOf_36 : decode cX12_drawOf 36 = .ok (.if_icmp .ne 10, 3) := by decide +kernel
theorem dX12_drawOf_39 : decode cX12_drawOf 39 = .ok (.iconst 1, 1) := by decide +kernel
theorem dX12_drawOf_40 : decode cX12_drawOf 40 = .ok (.iload 4, 2) := by decide +kernel
theorem dX12_drawOf_42 : decode cX12_drawOf 42 = .ok (.ishl, 1) := by decide +kernel
theorem dX12_drawOf_43 : decode cX12_drawOf 43 = .ok (.goto 4, 3) := by decide +kernel
theorem dX12_drawOf_46 : decode cX12_drawOf 46 = .ok (.iconst 0, 1) := by decide +kernel
theorem dX12_drawOf_47 : decode cX12_drawOf 47 = .ok (.ior, 1) := by decide +kernel
theorem dX12_drawOf_48 : decode cX12_drawOf 48 = .ok (.istore_n 2, 1) := by decide +kernel
theorem dX12_drawOf_49 : decode cX12_drawOf 49 = .ok (.goto 79, 3) := by decide +kernel
theorem dX12_drawOf_52 : decode cX12_drawOf 52 = .ok (.iload_n 3, 1) := by decide +kernel
theorem dX12_drawOf_53 : decode cX12_drawOf 53 = .ok (.aload_n 0, 1) := by decide +kernel
theorem dX12_drawOf_54 : decode cX12_drawOf 54 = .ok (.getfield 28, 3) := by decide +kernel
theorem dX12_drawOf_57 : decode cX12_drawOf 57 = .ok (.iload 4, 2) := by decide +kernel
theorem dX12_drawOf_59 : decode cX12_drawOf 59 = .ok (.iaload, 1) := by decide +kernel
theorem dX12_drawOf_60 : decode cX12_drawOf 60 = .ok (.iadd, 1) := by decide +kernel
theorem dX12_drawOf_61 : decode cX12_drawOf 61 = .ok (.istore 5, 2) := by decide +kernel
theorem dX12_drawOf_63 : decode cX12_drawOf 63 = .ok (.iload_n 3, 1) := by decide +kernel
theorem dX12_drawOf_64 : decode cX12_drawOf 64 = .ok (.iload_n 1, 1) := by decide +kernel
theorem dX12_drawOf_65 : decode cX12_drawOf 65 = .ok (.if_icmp .gt 7, 3) := by decide +kernel
theorem dX12_drawOf_68 : decode cX12_drawOf 68 = .ok (.iconst 0, 1) := by decide +kernel
theorem dX12_drawOf_69 : decode cX12_drawOf 69 = .ok (.goto 18, 3) := by decide +kernel
theorem dX12_drawOf_72 : decode cX12_drawOf 72 = .ok (.iload_n 3, 1) := by decide +kernel
theorem dX12_drawOf_73 : decode cX12_drawOf 73 = .ok (.iload_n 1, 1) := by decide +kernel
theorem dX12_drawOf_74 : decode cX12_drawOf 74 = .ok (.isub, 1) := by decide +kernel
theorem dX12_drawOf_75 : decode cX12_drawOf 75 = .ok (.aload_n 0, 1) := by decide +kernel
theorem dX12_drawOf_76 : decode cX12_drawOf 76 = .ok (.getfield 182, 3) := by decide +kernel
theorem dX12_drawOf_79 : decode cX12_drawOf 79 = .ok (.iadd, 1) := by decide +kernel
theorem dX12_drawOf_80 : decode cX12_drawOf 80 = .ok (.iconst 1, 1) := by decide +kernel
theorem dX12_drawOf_81 : decode cX12_drawOf 81 = .ok (.isub, 1) := by decide +kernel
theorem dX12_drawOf_82 : decode cX12_drawOf 82 = .ok (.aload_n 0, 1) := by decide +kernel
theorem dX12_drawOf_83 : decode cX12_drawOf 83 = .ok (.getfield 182, 3) := by decide +kernel
theorem dX12_drawOf_86 : decode cX12_drawOf 86 = .ok (.idiv, 1) := by decide +kernel
theorem dX12_drawOf_87 : decode cX12_drawOf 87 = .ok (.istore 6, 2) := by decide +kernel
theorem dX12_drawOf_89 : decode cX12_drawOf 89 = .ok (.iload_n 2, 1) := by decide +kernel
theorem dX12_drawOf_90 : decode cX12_drawOf 90 = .ok (.iload 6, 2) := by decide +kernel
theorem dX12_drawOf_92 : decode cX12_drawOf 92 = .ok (.aload_n 0, 1) := by decide +kernel
theorem dX12_drawOf_93 : decode cX12_drawOf 93 = .ok (.getfield 53, 3) := by decide +kernel
theorem dX12_drawOf_96 : decode cX12_drawOf 96 = .ok (.iconst 0, 1) := by decide +kernel
theorem dX12_drawOf_97 : decode cX12_drawOf 97 = .ok (.iaload, 1) := by decide +kernel
theorem dX12_drawOf_98 : decode cX12_drawOf 98 = .ok (.if_icmp .ge 24, 3) := by decide +kernel
theorem dX12_drawOf_101 : decode cX12_drawOf 101 = .ok (.iload_n 1, 1) := by decide +kernel
theorem dX12_drawOf_102 : decode cX12_drawOf 102 = .ok (.iload 6, 2) := by decide +kernel
theorem dX12_drawOf_104 : decode cX12_drawOf 104 = .ok (.aload_n 0, 1) := by decide +kernel
theorem dX12_drawOf_105 : decode cX12_drawOf 105 = .ok (.getfield 182, 3) := by decide +kernel
theorem dX12_drawOf_108 : decode cX12_drawOf 108 = .ok (.imul, 1) := by decide +kernel
theorem dX12_drawOf_109 : decode cX12_drawOf 109 = .ok (.iadd, 1) := by decide +kernel
theorem dX12_drawOf_110 : decode cX12_drawOf 110 = .ok (.iload 5, 2) := by decide +kernel
theorem dX12_drawOf_112 : decode cX12_drawOf 112 = .ok (.if_icmp .ge 10, 3) := by decide +kernel
theorem dX12_drawOf_115 : decode cX12_drawOf 115 = .ok (.iconst 1, 1) := by decide +kernel
theorem dX12_drawOf_116 : decode cX12_drawOf 116 = .ok (.iload 4, 2) := by decide +kernel
theorem dX12_drawOf_118 : decode cX12_drawOf 118 = .ok (.ishl, 1) := by decide +kernel
theorem dX12_drawOf_119 : decode cX12_drawOf 119 = .ok (.goto 4, 3) := by decide +kernel
theorem dX12_drawOf_122 : decode cX12_drawOf 122 = .ok (.iconst 0, 1) := by decide +kernel
theorem dX12_drawOf_123 : decode cX12_drawOf 123 = .ok (.ior, 1) := by decide +kernel
theorem dX12_drawOf_124 : decode cX12_drawOf 124 = .ok (.istore_n 2, 1) := by decide +kernel
theorem dX12_drawOf_125 : decode cX12_drawOf 125 = .ok (.iload 5, 2) := by decide +kernel
theorem dX12_drawOf_127 : decode cX12_drawOf 127 = .ok (.istore_n 3, 1) := by decide +kernel
theorem dX12_drawOf_128 : decode cX12_drawOf 128 = .ok (.iinc 4 1, 3) := by decide +kernel
theorem dX12_drawOf_131 : decode cX12_drawOf 131 = .ok (.goto (-124), 3) := by decide +kernel
theorem dX12_drawOf_134 : decode cX12_drawOf 134 = .ok (.iload_n 2, 1) := by decide +kernel
theorem dX12_drawOf_135 : decode cX12_drawOf 135 = .ok (.ireturn, 1) := by decide +kernel
theorem dX12_goesRound_0 : decode cX12_goesRound 0 = .ok (.aload_n 0, 1) := by decide +kernel
theorem dX12_goesRound_1 : decode cX12_goesRound 1 = .ok (.getfield 166, 3) := by decide +kernel
theorem dX12_goesRound_4 : decode cX12_goesRound 4 = .ok (.bipush 101, 2) := by decide +kernel
theorem dX12_goesRound_6 : decode cX12_goesRound 6 = .ok (.if_icmp .eq 12, 3) := by decide +kernel
theorem dX12_goesRound_9 : decode cX12_goesRound 9 = .ok (.aload_n 0, 1) := by decide +kernel
theorem dX12_goesRound_10 : decode cX12_goesRound 10 = .ok (.getfield 166, 3) := by decide +kernel
theorem dX12_goesRound_13 : decode cX12_goesRound 13 = .ok (.bipush 122, 2) := by decide +kernel
theorem dX12_goesRound_15 : decode cX12_goesRound 15 = .ok (.if_icmp .ne 7, 3) := by decide +kernel
theorem dX12_goesRound_18 : decode cX12_goesRound 18 = .ok (.iconst 1, 1) := by decide +kernel
theorem dX12_goesRound_19 : decode cX12_goesRound 19 = .ok (.goto 4, 3) := by decide +kernel
theorem dX12_goesRound_22 : decode cX12_goesRound 22 = .ok (.iconst 0, 1) := by decide +kernel
theorem dX12_goesRound_23 : decode cX12_goesRound 23 = .ok (.ireturn, 1) := by decide +kernel
theorem dX12_waysWith_0 : decode cX12_waysWith 0 = .ok (.iconst 0, 1) := by decide +kernel
theorem dX12_waysWith_1 : decode cX12_waysWith 1 = .ok (.istore_n 2, 1) := by decide +kernel
theorem dX12_waysWith_2 : decode cX12_waysWith 2 = .ok (.aload_n 0, 1) := by decide +kernel
theorem dX12_waysWith_3 : decode cX12_waysWith 3 = .ok (.invokevirtual 202, 3) := by decide +kernel
theorem dX12_waysWith_6 : decode cX12_waysWith 6 = .ok (.l2i, 1) := by decide +kernel
theorem dX12_waysWith_7 : decode cX12_waysWith 7 = .ok (.istore_n 3, 1) := by decide +kernel
theorem dX12_waysWith_8 : decode cX12_waysWith 8 = .ok (.iconst 0, 1) := by decide +kernel
theorem dX12_waysWith_9 : decode cX12_waysWith 9 = .ok (.istore 4, 2) := by decide +kernel
theorem dX12_waysWith_11 : decode cX12_waysWith 11 = .ok (.iload 4, 2) := by decide +kernel
theorem dX12_waysWith_13 : decode cX12_waysWith 13 = .ok (.iload_n 3, 1) := by decide +kernel
theorem dX12_waysWith_14 : decode cX12_waysWith 14 = .ok (.if_icmp .ge 29, 3) := by decide +kernel
theorem dX12_waysWith_17 : decode cX12_waysWith 17 = .ok (.iload_n 2, 1) := by decide +kernel
theorem dX12_waysWith_18 : decode cX12_waysWith 18 = .ok (.aload_n 0, 1) := by decide +kernel
theorem dX12_waysWith_19 : decode cX12_waysWith 19 = .ok (.iload 4, 2) := by decide +kernel
theorem dX12_waysWith_21 : decode cX12_waysWith 21 = .ok (.invokevirtual 217, 3) := by decide +kernel
theorem dX12_waysWith_24 : decode cX12_waysWith 24 = .ok (.iload_n 1, 1) := by decide +kernel
theorem dX12_waysWith_25 : decode cX12_waysWith 25 = .ok (.iand, 1) := by decide +kernel
theorem dX12_waysWith_26 : decode cX12_waysWith 26 = .ok (.iload_n 1, 1) := by decide +kernel
theorem dX12_waysWith_27 : decode cX12_waysWith 27 = .ok (.if_icmp .ne 7, 3) := by decide +kernel
theorem dX12_waysWith_30 : decode cX12_waysWith 30 = .ok (.iconst 1, 1) := by decide +kernel
theorem dX12_waysWith_31 : decode cX12_waysWith 31 = .ok (.goto 4, 3) := by decide +kernel
theorem dX12_waysWith_34 : decode cX12_waysWith 34 = .ok (.iconst 0, 1) := by decide +kernel
theorem dX12_waysWith_35 : decode cX12_waysWith 35 = .ok (.iadd, 1) := by decide +kernel
theorem dX12_waysWith_36 : decode cX12_waysWith 36 = .ok (.istore_n 2, 1) := by decide +kernel
theorem dX12_waysWith_37 : decode cX12_waysWith 37 = .ok (.iinc 4 1, 3) := by decide +kernel
theorem dX12_waysWith_40 : decode cX12_waysWith 40 = .ok (.goto (-29), 3) := by decide +kernel
theorem dX12_waysWith_43 : decode cX12_waysWith 43 = .ok (.iload_n 2, 1) := by decide +kernel
theorem dX12_waysWith_44 : decode cX12_waysWith 44 = .ok (.ireturn, 1) := by decide +kernel
theorem dX12_waysOf_0 : decode cX12_waysOf 0 = .ok (.aload_n 0, 1) := by decide +kernel
theorem dX12_waysOf_1 : decode cX12_waysOf 1 = .ok (.getfield 162, 3) := by decide +kernel
theorem dX12_waysOf_4 : decode cX12_waysOf 4 = .ok (.ifCond .ne 90, 3) := by decide +kernel
theorem dX12_waysOf_7 : decode cX12_waysOf 7 = .ok (.aload_n 0, 1) := by decide +kernel
theorem dX12_waysOf_8 : decode cX12_waysOf 8 = .ok (.iconst 1, 1) := by decide +kernel
theorem dX12_waysOf_9 : decode cX12_waysOf 9 = .ok (.putfield 162, 3) := by decide +kernel
theorem dX12_waysOf_12 : decode cX12_waysOf 12 = .ok (.iconst 0, 1) := by decide +kernel
theorem dX12_waysOf_13 : decode cX12_waysOf 13 = .ok (.istore_n 2, 1) := by decide +kernel
theorem dX12_waysOf_14 : decode cX12_waysOf 14 = .ok (.iload_n 2, 1) := by decide +kernel
theorem dX12_waysOf_15 : decode cX12_waysOf 15 = .ok (.bipush 30, 2) := by decide +kernel
theorem dX12_waysOf_17 : decode cX12_waysOf 17 = .ok (.if_icmp .ge 16, 3) := by decide +kernel
theorem dX12_waysOf_20 : decode cX12_waysOf 20 = .ok (.aload_n 0, 1) := by decide +kernel
theorem dX12_waysOf_21 : decode cX12_waysOf 21 = .ok (.getfield 56, 3) := by decide +kernel
theorem dX12_waysOf_24 : decode cX12_waysOf 24 = .ok (.iload_n 2, 1) := by decide +kernel
theorem dX12_waysOf_25 : decode cX12_waysOf 25 = .ok (.iconst 0, 1) := by decide +kernel
theorem dX12_waysOf_26 : decode cX12_waysOf 26 = .ok (.iastore, 1) := by decide +kernel
theorem dX12_waysOf_27 : decode cX12_waysOf 27 = .ok (.iinc 2 1, 3) := by decide +kernel
theorem dX12_waysOf_30 : decode cX12_waysOf 30 = .ok (.goto (-16), 3) := by decide +kernel
theorem dX12_waysOf_33 : decode cX12_waysOf 33 = .ok (.aload_n 0, 1) := by decide +kernel
theorem dX12_waysOf_34 : decode cX12_waysOf 34 = .ok (.invokevirtual 202, 3) := by decide +kernel
theorem dX12_waysOf_37 : decode cX12_waysOf 37 = .ok (.l2i, 1) := by decide +kernel
theorem dX12_waysOf_38 : decode cX12_waysOf 38 = .ok (.istore_n 2, 1) := by decide +kernel
theorem dX12_waysOf_39 : decode cX12_waysOf 39 = .ok (.iconst 0, 1) := by decide +kernel
theorem dX12_waysOf_40 : decode cX12_waysOf 40 = .ok (.istore_n 3, 1) := by decide +kernel
theorem dX12_waysOf_41 : decode cX12_waysOf 41 = .ok (.iload_n 3, 1) := by decide +kernel
theorem dX12_waysOf_42 : decode cX12_waysOf 42 = .ok (.iload_n 2, 1) := by decide +kernel
theorem dX12_waysOf_43 : decode cX12_waysOf 43 = .ok (.if_icmp .ge 51, 3) := by decide +kernel
theorem dX12_waysOf_46 : decode cX12_waysOf 46 = .ok (.aload_n 0, 1) := by decide +kernel
theorem dX12_waysOf_47 : decode cX12_waysOf 47 = .ok (.iload_n 3, 1) := by decide +kernel
theorem dX12_waysOf_48 : decode cX12_waysOf 48 = .ok (.invokevirtual 217, 3) := by decide +kernel
theorem dX12_waysOf_51 : decode cX12_waysOf 51 = .ok (.istore 4, 2) := by decide +kernel
theorem dX12_waysOf_53 : decode cX12_waysOf 53 = .ok (.iconst 0, 1) := by decide +kernel
theorem dX12_waysOf_54 : decode cX12_waysOf 54 = .ok (.istore 5, 2) := by decide +kernel
theorem dX12_waysOf_56 : decode cX12_waysOf 56 = .ok (.iload 5, 2) := by decide +kernel
theorem dX12_waysOf_58 : decode cX12_waysOf 58 = .ok (.aload_n 0, 1) := by decide +kernel
theorem dX12_waysOf_59 : decode cX12_waysOf 59 = .ok (.getfield 115, 3) := by decide +kernel
theorem dX12_waysOf_62 : decode cX12_waysOf 62 = .ok (.if_icmp .ge 26, 3) := by decide +kernel
theorem dX12_waysOf_65 : decode cX12_waysOf 65 = .ok (.aload_n 0, 1) := by decide +kernel
theorem dX12_waysOf_66 : decode cX12_waysOf 66 = .ok (.getfield 56, 3) := by decide +kernel
theorem dX12_waysOf_69 : decode cX12_waysOf 69 = .ok (.iload 5, 2) := by decide +kernel
theorem dX12_waysOf_71 : decode cX12_waysOf 71 = .ok (.dup2, 1) := by decide +kernel
theorem dX12_waysOf_72 : decode cX12_waysOf 72 = .ok (.iaload, 1) := by decide +kernel
theorem dX12_waysOf_73 : decode cX12_waysOf 73 = .ok (.iload 4, 2) := by decide +kernel
theorem dX12_waysOf_75 : decode cX12_waysOf 75 = .ok (.iload 5, 2) := by decide +kernel
theorem dX12_waysOf_77 : decode cX12_waysOf 77 = .ok (.ishr, 1) := by decide +kernel
theorem dX12_waysOf_78 : decode cX12_waysOf 78 = .ok (.iconst 1, 1) := by decide +kernel
theorem dX12_waysOf_79 : decode cX12_waysOf 79 = .ok (.iand, 1) := by decide +kernel
theorem dX12_waysOf_80 : decode cX12_waysOf 80 = .ok (.iadd, 1) := by decide +kernel
theorem dX12_waysOf_81 : decode cX12_waysOf 81 = .ok (.iastore, 1) := by decide +kernel
theorem dX12_waysOf_82 : decode cX12_waysOf 82 = .ok (.iinc 5 1, 3) := by decide +kernel
theorem dX12_waysOf_85 : decode cX12_waysOf 85 = .ok (.goto (-29), 3) := by decide +kernel
theorem dX12_waysOf_88 : decode cX12_waysOf 88 = .ok (.iinc 3 1, 3) := by decide +kernel
theorem dX12_waysOf_91 : decode cX12_waysOf 91 = .ok (.goto (-50), 3) := by decide +kernel
theorem dX12_waysOf_94 : decode cX12_waysOf 94 = .ok (.aload_n 0, 1) := by decide +kernel
theorem dX12_waysOf_95 : decode cX12_waysOf 95 = .ok (.getfield 56, 3) := by decide +kernel
theorem dX12_waysOf_98 : decode cX12_waysOf 98 = .ok (.iload_n 1, 1) := by decide +kernel
theorem dX12_waysOf_99 : decode cX12_waysOf 99 = .ok (.iaload, 1) := by decide +kernel
theorem dX12_waysOf_100 : decode cX12_waysOf 100 = .ok (.ireturn, 1) := by decide +kernel
theorem dX12_findShare_0 : decode cX12_findShare 0 = .ok (.aload_n 0, 1) := by decide +kernel
theorem dX12_findShare_1 : decode cX12_findShare 1 = .ok (.invokevirtual 220, 3) := by decide +kernel
theorem dX12_findShare_4 : decode cX12_findShare 4 = .ok (.ifCond .eq 20, 3) := by decide +kernel
theorem dX12_findShare_7 : decode cX12_findShare 7 = .ok (.aload_n 0, 1) := by decide +kernel
theorem dX12_findShare_8 : decode cX12_findShare 8 = .ok (.aload_n 0, 1) := by decide +kernel
theorem dX12_findShare_9 : decode cX12_findShare 9 = .ok (.iload_n 1, 1) := by decide +kernel
theorem dX12_findShare_10 : decode cX12_findShare 10 = .ok (.invokevirtual 224, 3) := by decide +kernel
theorem dX12_findShare_13 : decode cX12_findShare 13 = .ok (.i2l, 1) := by decide +kernel
theorem dX12_findShare_14 : decode cX12_findShare 14 = .ok (.aload_n 0, 1) := by decide +kernel
theorem dX12_findShare_15 : decode cX12_findShare 15 = .ok (.invokevirtual 202, 3) := by decide +kernel
theorem dX12_findShare_18 : decode cX12_findShare 18 = .ok (.invokevirtual 226, 3) := by decide +kernel
theorem dX12_findShare_21 : decode cX12_findShare 21 = .ok (.goto 109, 3) := by decide +kernel
theorem dX12_findShare_24 : decode cX12_findShare 24 = .ok (.aload_n 0, 1) := by decide +kernel
theorem dX12_findShare_25 : decode cX12_findShare 25 = .ok (.getfield 166, 3) := by decide +kernel
theorem dX12_findShare_28 : decode cX12_findShare 28 = .ok (.bipush 97, 2) := by decide +kernel
theorem dX12_findShare_30 : decode cX12_findShare 30 = .ok (.if_icmp .ne 22, 3) := by decide +kernel
theorem dX12_findShare_33 : decode cX12_findShare 33 = .ok (.aload_n 0, 1) := by decide +kernel
theorem dX12_findShare_34 : decode cX12_findShare 34 = .ok (.aload_n 0, 1) := by decide +kernel
theorem dX12_findShare_35 : decode cX12_findShare 35 = .ok (.getfield 53, 3) := by decide +kernel
theorem dX12_findShare_38 : decode cX12_findShare 38 = .ok (.iconst 0, 1) := by decide +kernel
theorem dX12_findShare_39 : decode cX12_findShare 39 = .ok (.iaload, 1) := by decide +kernel
theorem dX12_findShare_40 : decode cX12_findShare 40 = .ok (.i2l, 1) := by decide +kernel
theorem dX12_findShare_41 : decode cX12_findShare 41 = .ok (.aload_n 0, 1) := by decide +kernel
theorem dX12_findShare_42 : decode cX12_findShare 42 = .ok (.getfield 115, 3) := by decide +kernel
theorem dX12_findShare_45 : decode cX12_findShare 45 = .ok (.i2l, 1) := by decide +kernel
theorem dX12_findShare_46 : decode cX12_findShare 46 = .ok (.invokevirtual 226, 3) := by decide +kernel
theorem dX12_findShare_49 : decode cX12_findShare 49 = .ok (.goto 81, 3) := by decide +kernel
theorem dX12_findShare_52 : decode cX12_findShare 52 = .ok (.aload_n 0, 1) := by decide +kernel
theorem dX12_findShare_53 : decode cX12_findShare 53 = .ok (.getfield 166, 3) := by decide +kernel
theorem dX12_findShare_56 : decode cX12_findShare 56 = .ok (.bipush 108, 2) := by decide +kernel
theorem dX12_findShare_58 : decode cX12_findShare 58 = .ok (.if_icmp .ne 34, 3) := by decide +kernel
theorem dX12_findShare_61 : decode cX12_findShare 61 = .ok (.aload_n 0, 1) := by decide +kernel
theorem dX12_findShare_62 : decode cX12_findShare 62 = .ok (.aload_n 0, 1) := by decide +kernel
theorem dX12_findShare_63 : decode cX12_findShare 63 = .ok (.getfield 53, 3) := by decide +kernel
theorem dX12_findShare_66 : decode cX12_findShare 66 = .ok (.aload_n 0, 1) := by decide +kernel
theorem dX12_findShare_67 : decode cX12_findShare 67 = .ok (.getfield 22, 3) := by decide +kernel
theorem dX12_findShare_70 : decode cX12_findShare 70 = .ok (.iload_n 1, 1) := by decide +kernel
theorem dX12_findShare_71 : decode cX12_findShare 71 = .ok (.iaload, 1) := by decide +kernel
theorem dX12_findShare_72 : decode cX12_findShare 72 = .ok (.iaload, 1) := by decide +kernel
theorem dX12_findShare_73 : decode cX12_findShare 73 = .ok (.i2l, 1) := by decide +kernel
theorem dX12_findShare_74 : decode cX12_findShare 74 = .ok (.aload_n 0, 1) := by decide +kernel
theorem dX12_findShare_75 : decode cX12_findShare 75 = .ok (.iconst 0, 1) := by decide +kernel
theorem dX12_findShare_76 : decode cX12_findShare 76 = .ok (.aload_n 0, 1) := by decide +kernel
theorem dX12_findShare_77 : decode cX12_findShare 77 = .ok (.getfield 22, 3) := by decide +kernel
theorem dX12_findShare_80 : decode cX12_findShare 80 = .ok (.iload_n 1, 1) := by decide +kernel
theorem dX12_findShare_81 : decode cX12_findShare 81 = .ok (.iaload, 1) := by decide +kernel
theorem dX12_findShare_82 : decode cX12_findShare 82 = .ok (.invokevirtual 144, 3) := by decide +kernel
theorem dX12_findShare_85 : decode cX12_findShare 85 = .ok (.i2l, 1) := by decide +kernel
theorem dX12_findShare_86 : decode cX12_findShare 86 = .ok (.invokevirtual 226, 3) := by decide +kernel
theorem dX12_findShare_89 : decode cX12_findShare 89 = .ok (.goto 41, 3) := by decide +kernel
theorem dX12_findShare_92 : decode cX12_findShare 92 = .ok (.aload_n 0, 1) := by decide +kernel
theorem dX12_findShare_93 : decode cX12_findShare 93 = .ok (.getfield 25, 3) := by decide +kernel
theorem dX12_findShare_96 : decode cX12_findShare 96 = .ok (.iload_n 1, 1) := by decide +kernel
theorem dX12_findShare_97 : decode cX12_findShare 97 = .ok (.iaload, 1) := by decide +kernel
theorem dX12_findShare_98 : decode cX12_findShare 98 = .ok (.istore_n 2, 1) := by decide +kernel
theorem dX12_findShare_99 : decode cX12_findShare 99 = .ok (.aload_n 0, 1) := by decide +kernel
theorem dX12_findShare_100 : decode cX12_findShare 100 = .ok (.aload_n 0, 1) := by decide +kernel
theorem dX12_findShare_101 : decode cX12_findShare 101 = .ok (.getfield 53, 3) := by decide +kernel
theorem dX12_findShare_104 : decode cX12_findShare 104 = .ok (.iconst 0, 1) := by decide +kernel
theorem dX12_findShare_105 : decode cX12_findShare 105 = .ok (.iaload, 1) := by decide +kernel
theorem dX12_findShare_106 : decode cX12_findShare 106 = .ok (.i2l, 1) := by decide +kernel
theorem dX12_findShare_107 : decode cX12_findShare 107 = .ok (.aload_n 0, 1) := by decide +kernel
theorem dX12_findShare_108 : decode cX12_findShare 108 = .ok (.iload_n 2, 1) := by decide +kernel
theorem dX12_findShare_109 : decode cX12_findShare 109 = .ok (.invokevirtual 195, 3) := by decide +kernel
theorem dX12_findShare_112 : decode cX12_findShare 112 = .ok (.i2l, 1) := by decide +kernel
theorem dX12_findShare_113 : decode cX12_findShare 113 = .ok (.lmul, 1) := by decide +kernel
theorem dX12_findShare_114 : decode cX12_findShare 114 = .ok (.aload_n 0, 1) := by decide +kernel
theorem dX12_findShare_115 : decode cX12_findShare 115 = .ok (.invokevirtual 185, 3) := by decide +kernel
theorem dX12_findShare_118 : decode cX12_findShare 118 = .ok (.i2l, 1) := by decide +kernel
theorem dX12_findShare_119 : decode cX12_findShare 119 = .ok (.aload_n 0, 1) := by decide +kernel
theorem dX12_findShare_120 : decode cX12_findShare 120 = .ok (.iconst 1, 1) := by decide +kernel
theorem dX12_findShare_121 : decode cX12_findShare 121 = .ok (.iload_n 2, 1) := by decide +kernel
theorem dX12_findShare_122 : decode cX12_findShare 122 = .ok (.invokevirtual 144, 3) := by decide +kernel
theorem dX12_findShare_125 : decode cX12_findShare 125 = .ok (.i2l, 1) := by decide +kernel
theorem dX12_findShare_126 : decode cX12_findShare 126 = .ok (.lmul, 1) := by decide +kernel
theorem dX12_findShare_127 : decode cX12_findShare 127 = .ok (.invokevirtual 226, 3) := by decide +kernel
theorem dX12_findShare_130 : decode cX12_findShare 130 = .ok (.return_, 1) := by decide +kernel
theorem dX12_share_0 : decode cX12_share 0 = .ok (.iload_n 1, 1) := by decide +kernel
theorem dX12_share_1 : decode cX12_share 1 = .ok (.invokestatic 147, 3) := by decide +kernel
theorem dX12_share_4 : decode cX12_share 4 = .ok (.ifCond .eq 21, 3) := by decide +kernel
theorem dX12_share_7 : decode cX12_share 7 = .ok (.aload_n 0, 1) := by decide +kernel
theorem dX12_share_8 : decode cX12_share 8 = .ok (.iload_n 2, 1) := by decide +kernel
theorem dX12_share_9 : decode cX12_share 9 = .ok (.invokevirtual 131, 3) := by decide +kernel
theorem dX12_share_12 : decode cX12_share 12 = .ok (.ifCond .eq 13, 3) := by decide +kernel
theorem dX12_share_15 : decode cX12_share 15 = .ok (.iload_n 3, 1) := by decide +kernel
theorem dX12_share_16 : decode cX12_share 16 = .ok (.i2l, 1) := by decide +kernel
theorem dX12_share_17 : decode cX12_share 17 = .ok (.lconst 0, 1) := by decide +kernel
theorem dX12_share_18 : decode cX12_share 18 = .ok (.lconst 1, 1) := by decide +kernel
theorem dX12_share_19 : decode cX12_share 19 = .ok (.invokestatic 92, 3) := by decide +kernel
theorem dX12_share_22 : decode cX12_share 22 = .ok (.ifCond .ne 9, 3) := by decide +kernel
theorem dX12_share_25 : decode cX12_share 25 = .ok (.bipush (-2), 2) := by decide +kernel
theorem dX12_share_27 : decode cX12_share 27 = .ok (.invokestatic 198, 3) := by decide +kernel
theorem dX12_share_30 : decode cX12_share 30 = .ok (.lreturn, 1) := by decide +kernel
theorem dX12_share_31 : decode cX12_share 31 = .ok (.aload_n 0, 1) := by decide +kernel
theorem dX12_share_32 : decode cX12_share 32 = .ok (.iload_n 1, 1) := by decide +kernel
theorem dX12_share_33 : decode cX12_share 33 = .ok (.invokevirtual 188, 3) := by decide +kernel
theorem dX12_share_36 : decode cX12_share 36 = .ok (.ifCond .ne 9, 3) := by decide +kernel
theorem dX12_share_39 : decode cX12_share 39 = .ok (.bipush (-3), 2) := by decide +kernel
theorem dX12_share_41 : decode cX12_share 41 = .ok (.invokestatic 198, 3) := by decide +kernel
theorem dX12_share_44 : decode cX12_share 44 = .ok (.lreturn, 1) := by decide +kernel
theorem dX12_share_45 : decode cX12_share 45 = .ok (.aload_n 0, 1) := by decide +kernel
theorem dX12_share_46 : decode cX12_share 46 = .ok (.iload_n 2, 1) := by decide +kernel
theorem dX12_share_47 : decode cX12_share 47 = .ok (.invokevirtual 230, 3) := by decide +kernel
theorem dX12_share_50 : decode cX12_share 50 = .ok (.iload_n 3, 1) := by decide +kernel
theorem dX12_share_51 : decode cX12_share 51 = .ok (.ifCond .ne 10, 3) := by decide +kernel
theorem dX12_share_54 : decode cX12_share 54 = .ok (.aload_n 0, 1) := by decide +kernel
theorem dX12_share_55 : decode cX12_share 55 = .ok (.getfield 210, 3) := by decide +kernel
theorem dX12_share_58 : decode cX12_share 58 = .ok (.goto 7, 3) := by decide +kernel
theorem dX12_share_61 : decode cX12_share 61 = .ok (.aload_n 0, 1) := by decide +kernel
theorem dX12_share_62 : decode cX12_share 62 = .ok (.getfield 214, 3) := by decide +kernel
theorem dX12_share_65 : decode cX12_share 65 = .ok (.lreturn, 1) := by decide +kernel
theorem dX12_findBoth_0 : decode cX12_findBoth 0 = .ok (.aload_n 0, 1) := by decide +kernel
theorem dX12_findBoth_1 : decode cX12_findBoth 1 = .ok (.invokevirtual 220, 3) := by decide +kernel
theorem dX12_findBoth_4 : decode cX12_findBoth 4 = .ok (.ifCond .eq 26, 3) := by decide +kernel
theorem dX12_findBoth_7 : decode cX12_findBoth 7 = .ok (.aload_n 0, 1) := by decide +kernel
theorem dX12_findBoth_8 : decode cX12_findBoth 8 = .ok (.aload_n 0, 1) := by decide +kernel
theorem dX12_findBoth_9 : decode cX12_findBoth 9 = .ok (.iconst 1, 1) := by decide +kernel
theorem dX12_findBoth_10 : decode cX12_findBoth 10 = .ok (.iload_n 1, 1) := by decide +kernel
theorem dX12_findBoth_11 : decode cX12_findBoth 11 = .ok (.ishl, 1) := by decide +kernel
theorem dX12_findBoth_12 : decode cX12_findBoth 12 = .ok (.iconst 1, 1) := by decide +kernel
theorem dX12_findBoth_13 : decode cX12_findBoth 13 = .ok (.iload_n 2, 1) := by decide +kernel
theorem dX12_findBoth_14 : decode cX12_findBoth 14 = .ok (.ishl, 1) := by decide +kernel
theorem dX12_findBoth_15 : decode cX12_findBoth 15 = .ok (.ior, 1) := by decide +kernel
theorem dX12_findBoth_16 : decode cX12_findBoth 16 = .ok (.invokevirtual 234, 3) := by decide +kernel
theorem dX12_findBoth_19 : decode cX12_findBoth 19 = .ok (.i2l, 1) := by decide +kernel
theorem dX12_findBoth_20 : decode cX12_findBoth 20 = .ok (.aload_n 0, 1) := by decide +kernel
theorem dX12_findBoth_21 : decode cX12_findBoth 21 = .ok (.invokevirtual 202, 3) := by decide +kernel
theorem dX12_findBoth_24 : decode cX12_findBoth 24 = .ok (.invokevirtual 226, 3) := by decide +kernel
theorem dX12_findBoth_27 : decode cX12_findBoth 27 = .ok (.goto 309, 3) := by decide +kernel
theorem dX12_findBoth_30 : decode cX12_findBoth 30 = .ok (.aload_n 0, 1) := by decide +kernel
theorem dX12_findBoth_31 : decode cX12_findBoth 31 = .ok (.getfield 166, 3) := by decide +kernel
theorem dX12_findBoth_34 : decode cX12_findBoth 34 = .ok (.bipush 97, 2) := by decide +kernel
theorem dX12_findBoth_36 : decode cX12_findBoth 36 = .ok (.if_icmp .ne 40, 3) := by decide +kernel
theorem dX12_findBoth_39 : decode cX12_findBoth 39 = .ok (.aload_n 0, 1) := by decide +kernel
theorem dX12_findBoth_40 : decode cX12_findBoth 40 = .ok (.aload_n 0, 1) := by decide +kernel
theorem dX12_findBoth_41 : decode cX12_findBoth 41 = .ok (.getfield 53, 3) := by decide +kernel
theorem dX12_findBoth_44 : decode cX12_findBoth 44 = .ok (.iconst 0, 1) := by decide +kernel
theorem dX12_findBoth_45 : decode cX12_findBoth 45 = .ok (.iaload, 1) := by decide +kernel
theorem dX12_findBoth_46 : decode cX12_findBoth 46 = .ok (.i2l, 1) := by decide +kernel
theorem dX12_findBoth_47 : decode cX12_findBoth 47 = .ok (.aload_n 0, 1) := by decide +kernel
theorem dX12_findBoth_48 : decode cX12_findBoth 48 = .ok (.getfield 53, 3) := by decide +kernel
theorem dX12_findBoth_51 : decode cX12_findBoth 51 = .ok (.iconst 0, 1) := by decide +kernel
theorem dX12_findBoth_52 : decode cX12_findBoth 52 = .ok (.iaload, 1) := by decide +kernel
theorem dX12_findBoth_53 : decode cX12_findBoth 53 = .ok (.iconst 1, 1) := by decide +kernel
theorem dX12_findBoth_54 : decode cX12_findBoth 54 = .ok (.isub, 1) := by decide +kernel
theorem dX12_findBoth_55 : decode cX12_findBoth 55 = .ok (.i2l, 1) := by decide +kernel
theorem dX12_findBoth_56 : decode cX12_findBoth 56 = .ok (.lmul, 1) := by decide +kernel
theorem dX12_findBoth_57 : decode cX12_findBoth 57 = .ok (.aload_n 0, 1) := by decide +kernel
theorem dX12_findBoth_58 : decode cX12_findBoth 58 = .ok (.getfield 115, 3) := by decide +kernel
theorem dX12_findBoth_61 : decode cX12_findBoth 61 = .ok (.i2l, 1) := by decide +kernel
theorem dX12_findBoth_62 : decode cX12_findBoth 62 = .ok (.aload_n 0, 1) := by decide +kernel
theorem dX12_findBoth_63 : decode cX12_findBoth 63 = .ok (.getfield 115, 3) := by decide +kernel
theorem dX12_findBoth_66 : decode cX12_findBoth 66 = .ok (.iconst 1, 1) := by decide +kernel
theorem dX12_findBoth_67 : decode cX12_findBoth 67 = .ok (.isub, 1) := by decide +kernel
theorem dX12_findBoth_68 : decode cX12_findBoth 68 = .ok (.i2l, 1) := by decide +kernel
theorem dX12_findBoth_69 : decode cX12_findBoth 69 = .ok (.lmul, 1) := by decide +kernel
theorem dX12_findBoth_70 : decode cX12_findBoth 70 = .ok (.invokevirtual 226, 3) := by decide +kernel
theorem dX12_findBoth_73 : decode cX12_findBoth 73 = .ok (.goto 263, 3) := by decide +kernel
theorem dX12_findBoth_76 : decode cX12_findBoth 76 = .ok (.aload_n 0, 1) := by decide +kernel
theorem dX12_findBoth_77 : decode cX12_findBoth 77 = .ok (.getfield 166, 3) := by decide +kernel
theorem dX12_findBoth_80 : decode cX12_findBoth 80 = .ok (.bipush 108, 2) := by decide +kernel
theorem dX12_findBoth_82 : decode cX12_findBoth 82 = .ok (.if_icmp .ne 110, 3) := by decide +kernel
theorem dX12_findBoth_85 : decode cX12_findBoth 85 = .ok (.aload_n 0, 1) := by decide +kernel
theorem dX12_findBoth_86 : decode cX12_findBoth 86 = .ok (.iconst 0, 1) := by decide +kernel
theorem dX12_findBoth_87 : decode cX12_findBoth 87 = .ok (.aload_n 0, 1) := by decide +kernel
theorem dX12_findBoth_88 : decode cX12_findBoth 88 = .ok (.getfield 22, 3) := by decide +kernel
theorem dX12_findBoth_91 : decode cX12_findBoth 91 = .ok (.iload_n 1, 1) := by decide +kernel
theorem dX12_findBoth_92 : decode cX12_findBoth 92 = .ok (.iaload, 1) := by decide +kernel
theorem dX12_findBoth_93 : decode cX12_findBoth 93 = .ok (.invokevirtual 144, 3) := by decide +kernel
theorem dX12_findBoth_96 : decode cX12_findBoth 96 = .ok (.istore_n 3, 1) := by decide +kernel
theorem dX12_findBoth_97 : decode cX12_findBoth 97 = .ok (.aload_n 0, 1) := by decide +kernel
theorem dX12_findBoth_98 : decode cX12_findBoth 98 = .ok (.iconst 0, 1) := by decide +kernel
theorem dX12_findBoth_99 : decode cX12_findBoth 99 = .ok (.aload_n 0, 1) := by decide +kernel
theorem dX12_findBoth_100 : decode cX12_findBoth 100 = .ok (.getfield 22, 3) := by decide +kernel
theorem dX12_findBoth_103 : decode cX12_findBoth 103 = .ok (.iload_n 2, 1) := by decide +kernel
theorem dX12_findBoth_104 : decode cX12_findBoth 104 = .ok (.iaload, 1) := by decide +kernel
theorem dX12_findBoth_105 : decode cX12_findBoth 105 = .ok (.invokevirtual 144, 3) := by decide +kernel
theorem dX12_findBoth_108 : decode cX12_findBoth 108 = .ok (.istore 4, 2) := by decide +kernel
theorem dX12_findBoth_110 : decode cX12_findBoth 110 = .ok (.aload_n 0, 1) := by decide +kernel
theorem dX12_findBoth_111 : decode cX12_findBoth 111 = .ok (.getfield 22, 3) := by decide +kernel
theorem dX12_findBoth_114 : decode cX12_findBoth 114 = .ok (.iload_n 1, 1) := by decide +kernel
theorem dX12_findBoth_115 : decode cX12_findBoth 115 = .ok (.iaload, 1) := by decide +kernel
theorem dX12_findBoth_116 : decode cX12_findBoth 116 = .ok (.aload_n 0, 1) := by decide +kernel
theorem dX12_findBoth_117 : decode cX12_findBoth 117 = .ok (.getfield 22, 3) := by decide +kernel
theorem dX12_findBoth_120 : decode cX12_findBoth 120 = .ok (.iload_n 2, 1) := by decide +kernel
theorem dX12_findBoth_121 : decode cX12_findBoth 121 = .ok (.iaload, 1) := by decide +kernel
theorem dX12_findBoth_122 : decode cX12_findBoth 122 = .ok (.if_icmp .ne 7, 3) := by decide +kernel
theorem dX12_findBoth_125 : decode cX12_findBoth 125 = .ok (.iconst 1, 1) := by decide +kernel
theorem dX12_findBoth_126 : decode cX12_findBoth 126 = .ok (.goto 4, 3) := by decide +kernel
theorem dX12_findBoth_129 : decode cX12_findBoth 129 = .ok (.iconst 0, 1) := by decide +kernel
theorem dX12_findBoth_130 : decode cX12_findBoth 130 = .ok (.istore 5, 2) := by decide +kernel
theorem dX12_findBoth_132 : decode cX12_findBoth 132 = .ok (.aload_n 0, 1) := by decide +kernel
theorem dX12_findBoth_133 : decode cX12_findBoth 133 = .ok (.aload_n 0, 1) := by decide +kernel
theorem dX12_findBoth_134 : decode cX12_findBoth 134 = .ok (.getfield 53, 3) := by decide +kernel
theorem dX12_findBoth_137 : decode cX12_findBoth 137 = .ok (.aload_n 0, 1) := by decide +kernel
theorem dX12_findBoth_138 : decode cX12_findBoth 138 = .ok (.getfield 22, 3) := by decide +kernel
theorem dX12_findBoth_141 : decode cX12_findBoth 141 = .ok (.iload_n 1, 1) := by decide +kernel
theorem dX12_findBoth_142 : decode cX12_findBoth 142 = .ok (.iaload, 1) := by decide +kernel
theorem dX12_findBoth_143 : decode cX12_findBoth 143 = .ok (.iaload, 1) := by decide +kernel
theorem dX12_findBoth_144 : decode cX12_findBoth 144 = .ok (.i2l, 1) := by decide +kernel
theorem dX12_findBoth_145 : decode cX12_findBoth 145 = .ok (.aload_n 0, 1) := by decide +kernel
theorem dX12_findBoth_146 : decode cX12_findBoth 146 = .ok (.getfield 53, 3) := by decide +kernel
theorem dX12_findBoth_149 : decode cX12_findBoth 149 = .ok (.aload_n 0, 1) := by decide +kernel
theorem dX12_findBoth_150 : decode cX12_findBoth 150 = .ok (.getfield 22, 3) := by decide +kernel
theorem dX12_findBoth_153 : decode cX12_findBoth 153 = .ok (.iload_n 2, 1) := by decide +kernel
theorem dX12_findBoth_154 : decode cX12_findBoth 154 = .ok (.iaload, 1) := by decide +kernel
theorem dX12_findBoth_155 : decode cX12_findBoth 155 = .ok (.iaload, 1) := by decide +kernel
theorem dX12_findBoth_156 : decode cX12_findBoth 156 = .ok (.iload 5, 2) := by decide +kernel
theorem dX12_findBoth_158 : decode cX12_findBoth 158 = .ok (.ifCond .eq 7, 3) := by decide +kernel
theorem dX12_findBoth_161 : decode cX12_findBoth 161 = .ok (.iconst 1, 1) := by decide +kernel
theorem dX12_findBoth_162 : decode cX12_findBoth 162 = .ok (.goto 4, 3) := by decide +kernel
theorem dX12_findBoth_165 : decode cX12_findBoth 165 = .ok (.iconst 0, 1) := by decide +kernel
theorem dX12_findBoth_166 : decode cX12_findBoth 166 = .ok (.isub, 1) := by decide +kernel
theorem dX12_findBoth_167 : decode cX12_findBoth 167 = .ok (.i2l, 1) := by decide +kernel
theorem dX12_findBoth_168 : decode cX12_findBoth 168 = .ok (.lmul, 1) := by decide +kernel
theorem dX12_findBoth_169 : decode cX12_findBoth 169 = .ok (.iload_n 3, 1) := by decide +kernel
theorem dX12_findBoth_170 : decode cX12_findBoth 170 = .ok (.i2l, 1) := by decide +kernel
theorem dX12_findBoth_171 : decode cX12_findBoth 171 = .ok (.iload 4, 2) := by decide +kernel
theorem dX12_findBoth_173 : decode cX12_findBoth 173 = .ok (.iload 5, 2) := by decide +kernel
theorem dX12_findBoth_175 : decode cX12_findBoth 175 = .ok (.ifCond .eq 7, 3) := by decide +kernel
theorem dX12_findBoth_178 : decode cX12_findBoth 178 = .ok (.iconst 1, 1) := by decide +kernel
theorem dX12_findBoth_179 : decode cX12_findBoth 179 = .ok (.goto 4, 3) := by decide +kernel
theorem dX12_findBoth_182 : decode cX12_findBoth 182 = .ok (.iconst 0, 1) := by decide +kernel
theorem dX12_findBoth_183 : decode cX12_findBoth 183 = .ok (.isub, 1) := by decide +kernel
theorem dX12_findBoth_184 : decode cX12_findBoth 184 = .ok (.i2l, 1) := by decide +kernel
theorem dX12_findBoth_185 : decode cX12_findBoth 185 = .ok (.lmul, 1) := by decide +kernel
theorem dX12_findBoth_186 : decode cX12_findBoth 186 = .ok (.invokevirtual 226, 3) := by decide +kernel
theorem dX12_findBoth_189 : decode cX12_findBoth 189 = .ok (.goto 147, 3) := by decide +kernel
theorem dX12_findBoth_192 : decode cX12_findBoth 192 = .ok (.aload_n 0, 1) := by decide +kernel
theorem dX12_findBoth_193 : decode cX12_findBoth 193 = .ok (.getfield 25, 3) := by decide +kernel
theorem dX12_findBoth_196 : decode cX12_findBoth 196 = .ok (.iload_n 1, 1) := by decide +kernel
theorem dX12_findBoth_197 : decode cX12_findBoth 197 = .ok (.iaload, 1) := by decide +kernel
theorem dX12_findBoth_198 : decode cX12_findBoth 198 = .ok (.istore_n 3, 1) := by decide +kernel
theorem dX12_findBoth_199 : decode cX12_findBoth 199 = .ok (.aload_n 0, 1) := by decide +kernel
theorem dX12_findBoth_200 : decode cX12_findBoth 200 = .ok (.getfield 25, 3) := by decide +kernel
theorem dX12_findBoth_203 : decode cX12_findBoth 203 = .ok (.iload_n 2, 1) := by decide +kernel
theorem dX12_findBoth_204 : decode cX12_findBoth 204 = .ok (.iaload, 1) := by decide +kernel
theorem dX12_findBoth_205 : decode cX12_findBoth 205 = .ok (.istore 4, 2) := by decide +kernel
theorem dX12_findBoth_207 : decode cX12_findBoth 207 = .ok (.iload_n 3, 1) := by decide +kernel
theorem dX12_findBoth_208 : decode cX12_findBoth 208 = .ok (.iload 4, 2) := by decide +kernel
theorem dX12_findBoth_210 : decode cX12_findBoth 210 = .ok (.if_icmp .ne 7, 3) := by decide +kernel
theorem dX12_findBoth_213 : decode cX12_findBoth 213 = .ok (.iconst 1, 1) := by decide +kernel
theorem dX12_findBoth_214 : decode cX12_findBoth 214 = .ok (.goto 4, 3) := by decide +kernel
theorem dX12_findBoth_217 : decode cX12_findBoth 217 = .ok (.iconst 0, 1) := by decide +kernel
theorem dX12_findBoth_218 : decode cX12_findBoth 218 = .ok (.istore 5, 2) := by decide +kernel
theorem dX12_findBoth_220 : decode cX12_findBoth 220 = .ok (.aload_n 0, 1) := by decide +kernel
theorem dX12_findBoth_221 : decode cX12_findBoth 221 = .ok (.iload_n 3, 1) := by decide +kernel
theorem dX12_findBoth_222 : decode cX12_findBoth 222 = .ok (.invokevirtual 195, 3) := by decide +kernel
theorem dX12_findBoth_225 : decode cX12_findBoth 225 = .ok (.i2l, 1) := by decide +kernel
theorem dX12_findBoth_226 : decode cX12_findBoth 226 = .ok (.aload_n 0, 1) := by decide +kernel
theorem dX12_findBoth_227 : decode cX12_findBoth 227 = .ok (.iload 4, 2) := by decide +kernel
theorem dX12_findBoth_229 : decode cX12_findBoth 229 = .ok (.invokevirtual 195, 3) := by decide +kernel
theorem dX12_findBoth_232 : decode cX12_findBoth 232 = .ok (.iload 5, 2) := by decide +kernel
theorem dX12_findBoth_234 : decode cX12_findBoth 234 = .ok (.ifCond .eq 7, 3) := by decide +kernel
theorem dX12_findBoth_237 : decode cX12_findBoth 237 = .ok (.iconst 1, 1) := by decide +kernel
theorem dX12_findBoth_238 : decode cX12_findBoth 238 = .ok (.goto 4, 3) := by decide +kernel
theorem dX12_findBoth_241 : decode cX12_findBoth 241 = .ok (.iconst 0, 1) := by decide +kernel
theorem dX12_findBoth_242 : decode cX12_findBoth 242 = .ok (.isub, 1) := by decide +kernel
theorem dX12_findBoth_243 : decode cX12_findBoth 243 = .ok (.i2l, 1) := by decide +kernel
theorem dX12_findBoth_244 : decode cX12_findBoth 244 = .ok (.lmul, 1) := by decide +kernel
theorem dX12_findBoth_245 : decode cX12_findBoth 245 = .ok (.lstore 6, 2) := by decide +kernel
theorem dX12_findBoth_247 : decode cX12_findBoth 247 = .ok (.aload_n 0, 1) := by decide +kernel
theorem dX12_findBoth_248 : decode cX12_findBoth 248 = .ok (.iconst 1, 1) := by decide +kernel
theorem dX12_findBoth_249 : decode cX12_findBoth 249 = .ok (.iload_n 3, 1) := by decide +kernel
theorem dX12_findBoth_250 : decode cX12_findBoth 250 = .ok (.invokevirtual 144, 3) := by decide +kernel
theorem dX12_findBoth_253 : decode cX12_findBoth 253 = .ok (.i2l, 1) := by decide +kernel
theorem dX12_findBoth_254 : decode cX12_findBoth 254 = .ok (.aload_n 0, 1) := by decide +kernel
theorem dX12_findBoth_255 : decode cX12_findBoth 255 = .ok (.iconst 1, 1) := by decide +kernel
theorem dX12_findBoth_256 : decode cX12_findBoth 256 = .ok (.iload 4, 2) := by decide +kernel
theorem dX12_findBoth_258 : decode cX12_findBoth 258 = .ok (.invokevirtual 144, 3) := by decide +kernel
theorem dX12_findBoth_261 : decode cX12_findBoth 261 = .ok (.iload 5, 2) := by decide +kernel
theorem dX12_findBoth_263 : decode cX12_findBoth 263 = .ok (.ifCond .eq 7, 3) := by decide +kernel
theorem dX12_findBoth_266 : decode cX12_findBoth 266 = .ok (.iconst 1, 1) := by decide +kernel
theorem dX12_findBoth_267 : decode cX12_findBoth 267 = .ok (.goto 4, 3) := by decide +kernel
theorem dX12_findBoth_270 : decode cX12_findBoth 270 = .ok (.iconst 0, 1) := by decide +kernel
theorem dX12_findBoth_271 : decode cX12_findBoth 271 = .ok (.isub, 1) := by decide +kernel
theorem dX12_findBoth_272 : decode cX12_findBoth 272 = .ok (.i2l, 1) := by decide +kernel
theorem dX12_findBoth_273 : decode cX12_findBoth 273 = .ok (.lmul, 1) := by decide +kernel
theorem dX12_findBoth_274 : decode cX12_findBoth 274 = .ok (.lstore 8, 2) := by decide +kernel
theorem dX12_findBoth_276 : decode cX12_findBoth 276 = .ok (.aload_n 0, 1) := by decide +kernel
theorem dX12_findBoth_277 : decode cX12_findBoth 277 = .ok (.invokevirtual 185, 3) := by decide +kernel
theorem dX12_findBoth_280 : decode cX12_findBoth 280 = .ok (.istore 10, 2) := by decide +kernel
theorem dX12_findBoth_282 : decode cX12_findBoth 282 = .ok (.aload_n 0, 1) := by decide +kernel
theorem dX12_findBoth_283 : decode cX12_findBoth 283 = .ok (.lload 6, 2) := by decide +kernel
theorem dX12_findBoth_285 : decode cX12_findBoth 285 = .ok (.aload_n 0, 1) := by decide +kernel
theorem dX12_findBoth_286 : decode cX12_findBoth 286 = .ok (.getfield 53, 3) := by decide +kernel
theorem dX12_findBoth_289 : decode cX12_findBoth 289 = .ok (.iconst 0, 1) := by decide +kernel
theorem dX12_findBoth_290 : decode cX12_findBoth 290 = .ok (.iaload, 1) := by decide +kernel
theorem dX12_findBoth_291 : decode cX12_findBoth 291 = .ok (.i2l, 1) := by decide +kernel
theorem dX12_findBoth_292 : decode cX12_findBoth 292 = .ok (.lmul, 1) := by decide +kernel
theorem dX12_findBoth_293 : decode cX12_findBoth 293 = .ok (.iload 5, 2) := by decide +kernel
theorem dX12_findBoth_295 : decode cX12_findBoth 295 = .ok (.ifCond .eq 7, 3) := by decide +kernel
theorem dX12_findBoth_298 : decode cX12_findBoth 298 = .ok (.iconst 1, 1) := by decide +kernel
theorem dX12_findBoth_299 : decode cX12_findBoth 299 = .ok (.goto 11, 3) := by decide +kernel
theorem dX12_findBoth_302 : decode cX12_findBoth 302 = .ok (.aload_n 0, 1) := by decide +kernel
theorem dX12_findBoth_303 : decode cX12_findBoth 303 = .ok (.getfield 53, 3) := by decide +kernel
theorem dX12_findBoth_306 : decode cX12_findBoth 306 = .ok (.iconst 0, 1) := by decide +kernel
theorem dX12_findBoth_307 : decode cX12_findBoth 307 = .ok (.iaload, 1) := by decide +kernel
theorem dX12_findBoth_308 : decode cX12_findBoth 308 = .ok (.iconst 1, 1) := by decide +kernel
theorem dX12_findBoth_309 : decode cX12_findBoth 309 = .ok (.isub, 1) := by decide +kernel
theorem dX12_findBoth_310 : decode cX12_findBoth 310 = .ok (.i2l, 1) := by decide +kernel
theorem dX12_findBoth_311 : decode cX12_findBoth 311 = .ok (.lmul, 1) := by decide +kernel
theorem dX12_findBoth_312 : decode cX12_findBoth 312 = .ok (.lload 8, 2) := by decide +kernel
theorem dX12_findBoth_314 : decode cX12_findBoth 314 = .ok (.iload 10, 2) := by decide +kernel
theorem dX12_findBoth_316 : decode cX12_findBoth 316 = .ok (.i2l, 1) := by decide +kernel
theorem dX12_findBoth_317 : decode cX12_findBoth 317 = .ok (.lmul, 1) := by decide +kernel
theorem dX12_findBoth_318 : decode cX12_findBoth 318 = .ok (.iload 5, 2) := by decide +kernel
theorem dX12_findBoth_320 : decode cX12_findBoth 320 = .ok (.ifCond .eq 7, 3) := by decide +kernel
theorem dX12_findBoth_323 : decode cX12_findBoth 323 = .ok (.iconst 1, 1) := by decide +kernel
theorem dX12_findBoth_324 : decode cX12_findBoth 324 = .ok (.goto 7, 3) := by decide +kernel
theorem dX12_findBoth_327 : decode cX12_findBoth 327 = .ok (.iload 10, 2) := by decide +kernel
theorem dX12_findBoth_329 : decode cX12_findBoth 329 = .ok (.iconst 1, 1) := by decide +kernel
theorem dX12_findBoth_330 : decode cX12_findBoth 330 = .ok (.isub, 1) := by decide +kernel
theorem dX12_findBoth_331 : decode cX12_findBoth 331 = .ok (.i2l, 1) := by decide +kernel
theorem dX12_findBoth_332 : decode cX12_findBoth 332 = .ok (.lmul, 1) := by decide +kernel
theorem dX12_findBoth_333 : decode cX12_findBoth 333 = .ok (.invokevirtual 226, 3) := by decide +kernel
theorem dX12_findBoth_336 : decode cX12_findBoth 336 = .ok (.return_, 1) := by decide +kernel
theorem dX12_both_0 : decode cX12_both 0 = .ok (.iload_n 1, 1) := by decide +kernel
theorem dX12_both_1 : decode cX12_both 1 = .ok (.invokestatic 147, 3) := by decide +kernel
theorem dX12_both_4 : decode cX12_both 4 = .ok (.ifCond .eq 35, 3) := by decide +kernel
theorem dX12_both_7 : decode cX12_both 7 = .ok (.aload_n 0, 1) := by decide +kernel
theorem dX12_both_8 : decode cX12_both 8 = .ok (.iload_n 2, 1) := by decide +kernel
theorem dX12_both_9 : decode cX12_both 9 = .ok (.invokevirtual 131, 3) := by decide +kernel
theorem dX12_both_12 : decode cX12_both 12 = .ok (.ifCond .eq 27, 3) := by decide +kernel
theorem dX12_both_15 : decode cX12_both 15 = .ok (.aload_n 0, 1) := by decide +kernel
theorem dX12_both_16 : decode cX12_both 16 = .ok (.iload_n 3, 1) := by decide +kernel
theorem dX12_both_17 : decode cX12_both 17 = .ok (.invokevirtual 131, 3) := by decide +kernel
theorem dX12_both_20 : decode cX12_both 20 = .ok (.ifCond .eq 19, 3) := by decide +kernel
theorem dX12_both_23 : decode cX12_both 23 = .ok (.iload_n 2, 1) := by decide +kernel
theorem dX12_both_24 : decode cX12_both 24 = .ok (.iload_n 3, 1) := by decide +kernel
theorem dX12_both_25 : decode cX12_both 25 = .ok (.if_icmp .eq 14, 3) := by decide +kernel
theorem dX12_both_28 : decode cX12_both 28 = .ok (.iload 4, 2) := by decide +kernel
theorem dX12_both_30 : decode cX12_both 30 = .ok (.i2l, 1) := by decide +kernel
theorem dX12_both_31 : decode cX12_both 31 = .ok (.lconst 0, 1) := by decide +kernel
theorem dX12_both_32 : decode cX12_both 32 = .ok (.lconst 1, 1) := by decide +kernel
theorem dX12_both_33 : decode cX12_both 33 = .ok (.invokestatic 92, 3) := by decide +kernel
theorem dX12_both_36 : decode cX12_both 36 = .ok (.ifCond .ne 9, 3) := by decide +kernel
theorem dX12_both_39 : decode cX12_both 39 = .ok (.bipush (-2), 2) := by decide +kernel
theorem dX12_both_41 : decode cX12_both 41 = .ok (.invokestatic 198, 3) := by decide +kernel
theorem dX12_both_44 : decode cX12_both 44 = .ok (.lreturn, 1) := by decide +kernel
theorem dX12_both_45 : decode cX12_both 45 = .ok (.aload_n 0, 1) := by decide +kernel
theorem dX12_both_46 : decode cX12_both 46 = .ok (.iload_n 1, 1) := by decide +kernel
theorem dX12_both_47 : decode cX12_both 47 = .ok (.invokevirtual 188, 3) := by decide +kernel
theorem dX12_both_50 : decode cX12_both 50 = .ok (.ifCond .ne 9, 3) := by decide +kernel
theorem dX12_both_53 : decode cX12_both 53 = .ok (.bipush (-3), 2) := by decide +kernel
theorem dX12_both_55 : decode cX12_both 55 = .ok (.invokestatic 198, 3) := by decide +kernel
theorem dX12_both_58 : decode cX12_both 58 = .ok (.lreturn, 1) := by decide +kernel
theorem dX12_both_59 : decode cX12_both 59 = .ok (.aload_n 0, 1) := by decide +kernel
theorem dX12_both_60 : decode cX12_both 60 = .ok (.iload_n 2, 1) := by decide +kernel
theorem dX12_both_61 : decode cX12_both 61 = .ok (.iload_n 3, 1) := by decide +kernel
theorem dX12_both_62 : decode cX12_both 62 = .ok (.invokevirtual 237, 3) := by decide +kernel
theorem dX12_both_65 : decode cX12_both 65 = .ok (.iload 4, 2) := by decide +kernel
theorem dX12_both_67 : decode cX12_both 67 = .ok (.ifCond .ne 10, 3) := by decide +kernel
theorem dX12_both_70 : decode cX12_both 70 = .ok (.aload_n 0, 1) := by decide +kernel
theorem dX12_both_71 : decode cX12_both 71 = .ok (.getfield 210, 3) := by decide +kernel
theorem dX12_both_74 : decode cX12_both 74 = .ok (.goto 7, 3) := by decide +kernel
theorem dX12_both_77 : decode cX12_both 77 = .ok (.aload_n 0, 1) := by decide +kernel
theorem dX12_both_78 : decode cX12_both 78 = .ok (.getfield 214, 3) := by decide +kernel
theorem dX12_both_81 : decode cX12_both 81 = .ok (.lreturn, 1) := by decide +kernel
theorem dX12_ones_0 : decode cX12_ones 0 = .ok (.iconst 0, 1) := by decide +kernel
theorem dX12_ones_1 : decode cX12_ones 1 = .ok (.istore_n 1, 1) := by decide +kernel
theorem dX12_ones_2 : decode cX12_ones 2 = .ok (.iload_n 0, 1) := by decide +kernel
theorem dX12_ones_3 : decode cX12_ones 3 = .ok (.istore_n 2, 1) := by decide +kernel
theorem dX12_ones_4 : decode cX12_ones 4 = .ok (.iload_n 2, 1) := by decide +kernel
theorem dX12_ones_5 : decode cX12_ones 5 = .ok (.ifCond .eq 15, 3) := by decide +kernel
theorem dX12_ones_8 : decode cX12_ones 8 = .ok (.iinc 1 1, 3) := by decide +kernel
theorem dX12_ones_11 : decode cX12_ones 11 = .ok (.iload_n 2, 1) := by decide +kernel
theorem dX12_ones_12 : decode cX12_ones 12 = .ok (.iload_n 2, 1) := by decide +kernel
theorem dX12_ones_13 : decode cX12_ones 13 = .ok (.iconst 1, 1) := by decide +kernel
theorem dX12_ones_14 : decode cX12_ones 14 = .ok (.isub, 1) := by decide +kernel
theorem dX12_ones_15 : decode cX12_ones 15 = .ok (.iand, 1) := by decide +kernel
theorem dX12_ones_16 : decode cX12_ones 16 = .ok (.istore_n 2, 1) := by decide +kernel
theorem dX12_ones_17 : decode cX12_ones 17 = .ok (.goto (-13), 3) := by decide +kernel
theorem dX12_ones_20 : decode cX12_ones 20 = .ok (.iload_n 1, 1) := by decide +kernel
theorem dX12_ones_21 : decode cX12_ones 21 = .ok (.ireturn, 1) := by decide +kernel
theorem dX12_ofClusters_0 : decode cX12_ofClusters 0 = .ok (.iconst 0, 1) := by decide +kernel
theorem dX12_ofClusters_1 : decode cX12_ofClusters 1 = .ok (.istore_n 2, 1) := by decide +kernel
theorem dX12_ofClusters_2 : decode cX12_ofClusters 2 = .ok (.iconst 0, 1) := by decide +kernel
theorem dX12_ofClusters_3 : decode cX12_ofClusters 3 = .ok (.istore_n 3, 1) := by decide +kernel
theorem dX12_ofClusters_4 : decode cX12_ofClusters 4 = .ok (.iconst 0, 1) := by decide +kernel
theorem dX12_ofClusters_5 : decode cX12_ofClusters 5 = .ok (.istore 4, 2) := by decide +kernel
theorem dX12_ofClusters_7 : decode cX12_ofClusters 7 = .ok (.iload 4, 2) := by decide +kernel
theorem dX12_ofClusters_9 : decode cX12_ofClusters 9 = .ok (.aload_n 0, 1) := by decide +kernel
theorem dX12_ofClusters_10 : decode cX12_ofClusters 10 = .ok (.getfield 53, 3) := by decide +kernel
theorem dX12_ofClusters_13 : decode cX12_ofClusters 13 = .ok (.iconst 0, 1) := by decide +kernel
theorem dX12_ofClusters_14 : decode cX12_ofClusters 14 = .ok (.iaload, 1) := by decide +kernel
theorem dX12_ofClusters_15 : decode cX12_ofClusters 15 = .ok (.if_icmp .ge 127, 3) := by decide +kernel
theorem dX12_ofClusters_18 : decode cX12_ofClusters 18 = .ok (.iconst (-1), 1) := by decide +kernel
theorem dX12_ofClusters_19 : decode cX12_ofClusters 19 = .ok (.istore 5, 2) := by decide +kernel
theorem dX12_ofClusters_21 : decode cX12_ofClusters 21 = .ok (.iconst 0, 1) := by decide +kernel
theorem dX12_ofClusters_22 : decode cX12_ofClusters 22 = .ok (.istore 6, 2) := by decide +kernel
theorem dX12_ofClusters_24 : decode cX12_ofClusters 24 = .ok (.iload 6, 2) := by decide +kernel
theorem dX12_ofClusters_26 : decode cX12_ofClusters 26 = .ok (.bipush 8, 2) := by decide +kernel
theorem dX12_ofClusters_28 : decode cX12_ofClusters 28 = .ok (.if_icmp .ge 92, 3) := by decide +kernel
theorem dX12_ofClusters_31 : decode cX12_ofClusters 31 = .ok (.iload_n 2, 1) := by decide +kernel
theorem dX12_ofClusters_32 : decode cX12_ofClusters 32 = .ok (.iload 6, 2) := by decide +kernel
theorem dX12_ofClusters_34 : decode cX12_ofClusters 34 = .ok (.ishr, 1) := by decide +kernel
theorem dX12_ofClusters_35 : decode cX12_ofClusters 35 = .ok (.iconst 1, 1) := by decide +kernel
theorem dX12_ofClusters_36 : decode cX12_ofClusters 36 = .ok (.iand, 1) := by decide +kernel
theorem dX12_ofClusters_37 : decode cX12_ofClusters 37 = .ok (.ifCond .ne 77, 3) := by decide +kernel
theorem dX12_ofClusters_40 : decode cX12_ofClusters 40 = .ok (.aload_n 0, 1) := by decide +kernel
theorem dX12_ofClusters_41 : decode cX12_ofClusters 41 = .ok (.iconst 1, 1) := by decide +kernel
theorem dX12_ofClusters_42 : decode cX12_ofClusters 42 = .ok (.iload 6, 2) := by decide +kernel
theorem dX12_ofClusters_44 : decode cX12_ofClusters 44 = .ok (.invokevirtual 144, 3) := by decide +kernel
theorem dX12_ofClusters_47 : decode cX12_ofClusters 47 = .ok (.ifCond .le 67, 3) := by decide +kernel
theorem dX12_ofClusters_50 : decode cX12_ofClusters 50 = .ok (.iload 5, 2) := by decide +kernel
theorem dX12_ofClusters_52 : decode cX12_ofClusters 52 = .ok (.iconst (-1), 1) := by decide +kernel
theorem dX12_ofClusters_53 : decode cX12_ofClusters 53 = .ok (.if_icmp .eq 40, 3) := by decide +kernel
theorem dX12_ofClusters_56 : decode cX12_ofClusters 56 = .ok (.iload_n 1, 1) := by decide +kernel
theorem dX12_ofClusters_57 : decode cX12_ofClusters 57 = .ok (.ifCond .ne 21, 3) := by decide +kernel
theorem dX12_ofClusters_60 : decode cX12_ofClusters 60 = .ok (.aload_n 0, 1) := by decide +kernel
theorem dX12_ofClusters_61 : decode cX12_ofClusters 61 = .ok (.iload 6, 2) := by decide +kernel
theorem dX12_ofClusters_63 : decode cX12_ofClusters 63 = .ok (.invokevirtual 195, 3) := by decide +kernel
theorem dX12_ofClusters_66 : decode cX12_ofClusters 66 = .ok (.aload_n 0, 1) := by decide +kernel
theorem dX12_ofClusters_67 : decode cX12_ofClusters 67 = .ok (.iload 5, 2) := by decide +kernel
theorem dX12_ofClusters_69 : decode cX12_ofClusters 69 = .ok (.invokevirtual 195, 3) := by decide +kernel
theorem dX12_ofClusters_72 : decode cX12_ofClusters 72 = .ok (.if_icmp .ge 25, 3) := by decide +kernel
theorem dX12_ofClusters_75 : decode cX12_ofClusters 75 = .ok (.goto 18, 3) := by decide +kernel
theorem dX12_ofClusters_78 : decode cX12_ofClusters 78 = .ok (.aload_n 0, 1) := by decide +kernel
theorem dX12_ofClusters_79 : decode cX12_ofClusters 79 = .ok (.iload 6, 2) := by decide +kernel
theorem dX12_ofClusters_81 : decode cX12_ofClusters 81 = .ok (.invokevirtual 195, 3) := by decide +kernel
theorem dX12_ofClusters_84 : decode cX12_ofClusters 84 = .ok (.aload_n 0, 1) := by decide +kernel
theorem dX12_ofClusters_85 : decode cX12_ofClusters 85 = .ok (.iload 5, 2) := by decide +kernel
theorem dX12_ofClusters_87 : decode cX12_ofClusters 87 = .ok (.invokevirtual 195, 3) := by decide +kernel
theorem dX12_ofClusters_90 : decode cX12_ofClusters 90 = .ok (.if_icmp .le 7, 3) := by decide +kernel
theorem dX12_ofClusters_93 : decode cX12_ofClusters 93 = .ok (.iconst 1, 1) := by decide +kernel
theorem dX12_ofClusters_94 : decode cX12_ofClusters 94 = .ok (.goto 4, 3) := by decide +kernel
theorem dX12_ofClusters_97 : decode cX12_ofClusters 97 = .ok (.iconst 0, 1) := by decide +kernel
theorem dX12_ofClusters_98 : decode cX12_ofClusters 98 = .ok (.istore 7, 2) := by decide +kernel
theorem dX12_ofClusters_100 : decode cX12_ofClusters 100 = .ok (.iload 7, 2) := by decide +kernel
theorem dX12_ofClusters_102 : decode cX12_ofClusters 102 = .ok (.ifCond .eq 8, 3) := by decide +kernel
theorem dX12_ofClusters_105 : decode cX12_ofClusters 105 = .ok (.iload 6, 2) := by decide +kernel
theorem dX12_ofClusters_107 : decode cX12_ofClusters 107 = .ok (.goto 5, 3) := by decide +kernel
theorem dX12_ofClusters_110 : decode cX12_ofClusters 110 = .ok (.iload 5, 2) := by decide +kernel
theorem dX12_ofClusters_112 : decode cX12_ofClusters 112 = .ok (.istore 5, 2) := by decide +kernel
theorem dX12_ofClusters_114 : decode cX12_ofClusters 114 = .ok (.iinc 6 1, 3) := by decide +kernel
theorem dX12_ofClusters_117 : decode cX12_ofClusters 117 = .ok (.goto (-93), 3) := by decide +kernel
theorem dX12_ofClusters_120 : decode cX12_ofClusters 120 = .ok (.iload_n 2, 1) := by decide +kernel
theorem dX12_ofClusters_121 : decode cX12_ofClusters 121 = .ok (.iconst 1, 1) := by decide +kernel
theorem dX12_ofClusters_122 : decode cX12_ofClusters 122 = .ok (.iload 5, 2) := by decide +kernel
theorem dX12_ofClusters_124 : decode cX12_ofClusters 124 = .ok (.ishl, 1) := by decide +kernel
theorem dX12_ofClusters_125 : decode cX12_ofClusters 125 = .ok (.ior, 1) := by decide +kernel
theorem dX12_ofClusters_126 : decode cX12_ofClusters 126 = .ok (.istore_n 2, 1) := by decide +kernel
theorem dX12_ofClusters_127 : decode cX12_ofClusters 127 = .ok (.iload_n 3, 1) := by decide +kernel
theorem dX12_ofClusters_128 : decode cX12_ofClusters 128 = .ok (.aload_n 0, 1) := by decide +kernel
theorem dX12_ofClusters_129 : decode cX12_ofClusters 129 = .ok (.iload 5, 2) := by decide +kernel
theorem dX12_ofClusters_131 : decode cX12_ofClusters 131 = .ok (.invokevirtual 195, 3) := by decide +kernel
theorem dX12_ofClusters_134 : decode cX12_ofClusters 134 = .ok (.iadd, 1) := by decide +kernel
theorem dX12_ofClusters_135 : decode cX12_ofClusters 135 = .ok (.istore_n 3, 1) := by decide +kernel
theorem dX12_ofClusters_136 : decode cX12_ofClusters 136 = .ok (.iinc 4 1, 3) := by decide +kernel
theorem dX12_ofClusters_139 : decode cX12_ofClusters 139 = .ok (.goto (-132), 3) := by decide +kernel
theorem dX12_ofClusters_142 : decode cX12_ofClusters 142 = .ok (.iload_n 3, 1) := by decide +kernel
theorem dX12_ofClusters_143 : decode cX12_ofClusters 143 = .ok (.ireturn, 1) := by decide +kernel
theorem dX12_width_0 : decode cX12_width 0 = .ok (.iload_n 1, 1) := by decide +kernel
theorem dX12_width_1 : decode cX12_width 1 = .ok (.invokestatic 147, 3) := by decide +kernel
theorem dX12_width_4 : decode cX12_width 4 = .ok (.ifCond .eq 13, 3) := by decide +kernel
theorem dX12_width_7 : decode cX12_width 7 = .ok (.iload_n 2, 1) := by decide +kernel
theorem dX12_width_8 : decode cX12_width 8 = .ok (.i2l, 1) := by decide +kernel
theorem dX12_width_9 : decode cX12_width 9 = .ok (.lconst 0, 1) := by decide +kernel
theorem dX12_width_10 : decode cX12_width 10 = .ok (.lconst 1, 1) := by decide +kernel
theorem dX12_width_11 : decode cX12_width 11 = .ok (.invokestatic 92, 3) := by decide +kernel
theorem dX12_width_14 : decode cX12_width 14 = .ok (.ifCond .ne 6, 3) := by decide +kernel
theorem dX12_width_17 : decode cX12_width 17 = .ok (.bipush (-2), 2) := by decide +kernel
theorem dX12_width_19 : decode cX12_width 19 = .ok (.ireturn, 1) := by decide +kernel
theorem dX12_width_20 : decode cX12_width 20 = .ok (.aload_n 0, 1) := by decide +kernel
theorem dX12_width_21 : decode cX12_width 21 = .ok (.iload_n 1, 1) := by decide +kernel
theorem dX12_width_22 : decode cX12_width 22 = .ok (.invokevirtual 188, 3) := by decide +kernel
theorem dX12_width_25 : decode cX12_width 25 = .ok (.ifCond .ne 6, 3) := by decide +kernel
theorem dX12_width_28 : decode cX12_width 28 = .ok (.bipush (-3), 2) := by decide +kernel
theorem dX12_width_30 : decode cX12_width 30 = .ok (.ireturn, 1) := by decide +kernel
theorem dX12_width_31 : decode cX12_width 31 = .ok (.aload_n 0, 1) := by decide +kernel
theorem dX12_width_32 : decode cX12_width 32 = .ok (.getfield 166, 3) := by decide +kernel
theorem dX12_width_35 : decode cX12_width 35 = .ok (.bipush 97, 2) := by decide +kernel
theorem dX12_width_37 : decode cX12_width 37 = .ok (.if_icmp .ne 10, 3) := by decide +kernel
theorem dX12_width_40 : decode cX12_width 40 = .ok (.aload_n 0, 1) := by decide +kernel
theorem dX12_width_41 : decode cX12_width 41 = .ok (.getfield 53, 3) := by decide +kernel
theorem dX12_width_44 : decode cX12_width 44 = .ok (.iconst 0, 1) := by decide +kernel
theorem dX12_width_45 : decode cX12_width 45 = .ok (.iaload, 1) := by decide +kernel
theorem dX12_width_46 : decode cX12_width 46 = .ok (.ireturn, 1) := by decide +kernel
theorem dX12_width_47 : decode cX12_width 47 = .ok (.aload_n 0, 1) := by decide +kernel
theorem dX12_width_48 : decode cX12_width 48 = .ok (.getfield 166, 3) := by decide +kernel
theorem dX12_width_51 : decode cX12_width 51 = .ok (.bipush 108, 2) := by decide +kernel
theorem dX12_width_53 : decode cX12_width 53 = .ok (.if_icmp .ne 31, 3) := by decide +kernel
theorem dX12_width_56 : decode cX12_width 56 = .ok (.aload_n 0, 1) := by decide +kernel
theorem dX12_width_57 : decode cX12_width 57 = .ok (.getfield 53, 3) := by decide +kernel
theorem dX12_width_60 : decode cX12_width 60 = .ok (.iconst 0, 1) := by decide +kernel
theorem dX12_width_61 : decode cX12_width 61 = .ok (.iaload, 1) := by decide +kernel
theorem dX12_width_62 : decode cX12_width 62 = .ok (.aload_n 0, 1) := by decide +kernel
theorem dX12_width_63 : decode cX12_width 63 = .ok (.getfield 53, 3) := by decide +kernel
theorem dX12_width_66 : decode cX12_width 66 = .ok (.iconst 1, 1) := by decide +kernel
theorem dX12_width_67 : decode cX12_width 67 = .ok (.iaload, 1) := by decide +kernel
theorem dX12_width_68 : decode cX12_width 68 = .ok (.iadd, 1) := by decide +kernel
theorem dX12_width_69 : decode cX12_width 69 = .ok (.aload_n 0, 1) := by decide +kernel
theorem dX12_width_70 : decode cX12_width 70 = .ok (.getfield 53, 3) := by decide +kernel
theorem dX12_width_73 : decode cX12_width 73 = .ok (.iconst 2, 1) := by decide +kernel
theorem dX12_width_74 : decode cX12_width 74 = .ok (.iaload, 1) := by decide +kernel
theorem dX12_width_75 : decode cX12_width 75 = .ok (.iadd, 1) := by decide +kernel
theorem dX12_width_76 : decode cX12_width 76 = .ok (.aload_n 0, 1) := by decide +kernel
theorem dX12_width_77 : decode cX12_width 77 = .ok (.getfield 53, 3) := by decide +kernel
theorem dX12_width_80 : decode cX12_width 80 = .ok (.iconst 3, 1) := by decide +kernel
theorem dX12_width_81 : decode cX12_width 81 = .ok (.iaload, 1) := by decide +kernel
theorem dX12_width_82 : decode cX12_width 82 = .ok (.iadd, 1) := by decide +kernel
theorem dX12_width_83 : decode cX12_width 83 = .ok (.ireturn, 1) := by decide +kernel
theorem dX12_width_84 : decode cX12_width 84 = .ok (.aload_n 0, 1) := by decide +kernel
theorem dX12_width_85 : decode cX12_width 85 = .ok (.getfield 166, 3) := by decide +kernel
theorem dX12_width_88 : decode cX12_width 88 = .ok (.bipush 116, 2) := by decide +kernel
theorem dX12_width_90 : decode cX12_width 90 = .ok (.if_icmp .ne 9, 3) := by decide +kernel
theorem dX12_width_93 : decode cX12_width 93 = .ok (.aload_n 0, 1) := by decide +kernel
theorem dX12_width_94 : decode cX12_width 94 = .ok (.iload_n 2, 1) := by decide +kernel
theorem dX12_width_95 : decode cX12_width 95 = .ok (.invokevirtual 241, 3) := by decide +kernel
theorem dX12_width_98 : decode cX12_width 98 = .ok (.ireturn, 1) := by decide +kernel
theorem dX12_width_99 : decode cX12_width 99 = .ok (.aload_n 0, 1) := by decide +kernel
theorem dX12_width_100 : decode cX12_width 100 = .ok (.iconst 0, 1) := by decide +kernel
theorem dX12_width_101 : decode cX12_width 101 = .ok (.invokevirtual 217, 3) := by decide +kernel
theorem dX12_width_104 : decode cX12_width 104 = .ok (.invokestatic 244, 3) := by decide +kernel
theorem dX12_width_107 : decode cX12_width 107 = .ok (.istore_n 3, 1) := by decide +kernel
theorem dX12_width_108 : decode cX12_width 108 = .ok (.aload_n 0, 1) := by decide +kernel
theorem dX12_width_109 : decode cX12_width 109 = .ok (.invokevirtual 202, 3) := by decide +kernel
theorem dX12_width_112 : decode cX12_width 112 = .ok (.l2i, 1) := by decide +kernel
theorem dX12_width_113 : decode cX12_width 113 = .ok (.istore 4, 2) := by decide +kernel
theorem dX12_width_115 : decode cX12_width 115 = .ok (.iconst 1, 1) := by decide +kernel
theorem dX12_width_116 : decode cX12_width 116 = .ok (.istore 5, 2) := by decide +kernel
theorem dX12_width_118 : decode cX12_width 118 = .ok (.iload 5, 2) := by decide +kernel
theorem dX12_width_120 : decode cX12_width 120 = .ok (.iload 4, 2) := by decide +kernel
theorem dX12_width_122 : decode cX12_width 122 = .ok (.if_icmp .ge 46, 3) := by decide +kernel
theorem dX12_width_125 : decode cX12_width 125 = .ok (.aload_n 0, 1) := by decide +kernel
theorem dX12_width_126 : decode cX12_width 126 = .ok (.iload 5, 2) := by decide +kernel
theorem dX12_width_128 : decode cX12_width 128 = .ok (.invokevirtual 217, 3) := by decide +kernel
theorem dX12_width_131 : decode cX12_width 131 = .ok (.invokestatic 244, 3) := by decide +kernel
theorem dX12_width_134 : decode cX12_width 134 = .ok (.istore 6, 2) := by decide +kernel
theorem dX12_width_136 : decode cX12_width 136 = .ok (.iload_n 2, 1) := by decide +kernel
theorem dX12_width_137 : decode cX12_width 137 = .ok (.ifCond .ne 12, 3) := by decide +kernel
theorem dX12_width_140 : decode cX12_width 140 = .ok (.iload 6, 2) := by decide +kernel
theorem dX12_width_142 : decode cX12_width 142 = .ok (.iload_n 3, 1) := by decide +kernel
theorem dX12_width_143 : decode cX12_width 143 = .ok (.if_icmp .ge 17, 3) := by decide +kernel
theorem dX12_width_146 : decode cX12_width 146 = .ok (.goto 9, 3) := by decide +kernel
theorem dX12_width_149 : decode cX12_width 149 = .ok (.iload 6, 2) := by decide +kernel
theorem dX12_width_151 : decode cX12_width 151 = .ok (.iload_n 3, 1) := by decide +kernel
theorem dX12_width_152 : decode cX12_width 152 = .ok (.if_icmp .le 8, 3) := by decide +kernel
theorem dX12_width_155 : decode cX12_width 155 = .ok (.iload 6, 2) := by decide +kernel
theorem dX12_width_157 : decode cX12_width 157 = .ok (.goto 4, 3) := by decide +kernel
theorem dX12_width_160 : decode cX12_width 160 = .ok (.iload_n 3, 1) := by decide +kernel
theorem dX12_width_161 : decode cX12_width 161 = .ok (.istore_n 3, 1) := by decide +kernel
theorem dX12_width_162 : decode cX12_width 162 = .ok (.iinc 5 1, 3) := by decide +kernel
theorem dX12_width_165 : decode cX12_width 165 = .ok (.goto (-47), 3) := by decide +kernel
theorem dX12_width_168 : decode cX12_width 168 = .ok (.iload_n 3, 1) := by decide +kernel
theorem dX12_width_169 : decode cX12_width 169 = .ok (.ireturn, 1) := by decide +kernel
theorem dX12_lot_0 : decode cX12_lot 0 = .ok (.aload_n 0, 1) := by decide +kernel
theorem dX12_lot_1 : decode cX12_lot 1 = .ok (.ldc 247, 2) := by decide +kernel
theorem dX12_lot_3 : decode cX12_lot 3 = .ok (.aload_n 0, 1) := by decide +kernel
theorem dX12_lot_4 : decode cX12_lot 4 = .ok (.getfield 248, 3) := by decide +kernel
theorem dX12_lot_7 : decode cX12_lot 7 = .ok (.imul, 1) := by decide +kernel
theorem dX12_lot_8 : decode cX12_lot 8 = .ok (.sipush 12345, 3) := by decide +kernel
theorem dX12_lot_11 : decode cX12_lot 11 = .ok (.iadd, 1) := by decide +kernel
theorem dX12_lot_12 : decode cX12_lot 12 = .ok (.putfield 248, 3) := by decide +kernel
theorem dX12_lot_15 : decode cX12_lot 15 = .ok (.aload_n 0, 1) := by decide +kernel
theorem dX12_lot_16 : decode cX12_lot 16 = .ok (.getfield 248, 3) := by decide +kernel
theorem dX12_lot_19 : decode cX12_lot 19 = .ok (.bipush 16, 2) := by decide +kernel
theorem dX12_lot_21 : decode cX12_lot 21 = .ok (.iushr, 1) := by decide +kernel
theorem dX12_lot_22 : decode cX12_lot 22 = .ok (.iload_n 1, 1) := by decide +kernel
theorem dX12_lot_23 : decode cX12_lot 23 = .ok (.irem, 1) := by decide +kernel
theorem dX12_lot_24 : decode cX12_lot 24 = .ok (.ireturn, 1) := by decide +kernel
theorem dX12_takes_0 : decode cX12_takes 0 = .ok (.iload_n 1, 1) := by decide +kernel
theorem dX12_takes_1 : decode cX12_takes 1 = .ok (.invokestatic 244, 3) := by decide +kernel
theorem dX12_takes_4 : decode cX12_takes 4 = .ok (.istore_n 3, 1) := by decide +kernel
theorem dX12_takes_5 : decode cX12_takes 5 = .ok (.iload_n 2, 1) := by decide +kernel
theorem dX12_takes_6 : decode cX12_takes 6 = .ok (.istore 4, 2) := by decide +kernel
theorem dX12_takes_8 : decode cX12_takes 8 = .ok (.iconst 0, 1) := by decide +kernel
theorem dX12_takes_9 : decode cX12_takes 9 = .ok (.istore 5, 2) := by decide +kernel
theorem dX12_takes_11 : decode cX12_takes 11 = .ok (.iconst 0, 1) := by decide +kernel
theorem dX12_takes_12 : decode cX12_takes 12 = .ok (.istore 6, 2) := by decide +kernel
theorem dX12_takes_14 : decode cX12_takes 14 = .ok (.iload 6, 2) := by decide +kernel
theorem dX12_takes_16 : decode cX12_takes 16 = .ok (.bipush 30, 2) := by decide +kernel
theorem dX12_takes_18 : decode cX12_takes 18 = .ok (.if_icmp .ge 44, 3) := by decide +kernel
theorem dX12_takes_21 : decode cX12_takes 21 = .ok (.iload_n 1, 1) := by decide +kernel
theorem dX12_takes_22 : decode cX12_takes 22 = .ok (.iload 6, 2) := by decide +kernel
theorem dX12_takes_24 : decode cX12_takes 24 = .ok (.ishr, 1) := by decide +kernel
theorem dX12_takes_25 : decode cX12_takes 25 = .ok (.iconst 1, 1) := by decide +kernel
theorem dX12_takes_26 : decode cX12_takes 26 = .ok (.iand, 1) := by decide +kernel
theorem dX12_takes_27 : decode cX12_takes 27 = .ok (.iconst 1, 1) := by decide +kernel
theorem dX12_takes_28 : decode cX12_takes 28 = .ok (.if_icmp .ne 28, 3) := by decide +kernel
theorem dX12_takes_31 : decode cX12_takes 31 = .ok (.aload_n 0, 1) := by decide +kernel
theorem dX12_takes_32 : decode cX12_takes 32 = .ok (.iload_n 3, 1) := by decide +kernel
theorem dX12_takes_33 : decode cX12_takes 33 = .ok (.invokevirtual 251, 3) := by decide +kernel
theorem dX12_takes_36 : decode cX12_takes 36 = .ok (.iload 4, 2) := by decide +kernel
theorem dX12_takes_38 : decode cX12_takes 38 = .ok (.if_icmp .ge 15, 3) := by decide +kernel
theorem dX12_takes_41 : decode cX12_takes 41 = .ok (.iload 5, 2) := by decide +kernel
theorem dX12_takes_43 : decode cX12_takes 43 = .ok (.iconst 1, 1) := by decide +kernel
theorem dX12_takes_44 : decode cX12_takes 44 = .ok (.iload 6, 2) := by decide +kernel
theorem dX12_takes_46 : decode cX12_takes 46 = .ok (.ishl, 1) := by decide +kernel
theorem dX12_takes_47 : decode cX12_takes 47 = .ok (.ior, 1) := by decide +kernel
theorem dX12_takes_48 : decode cX12_takes 48 = .ok (.istore 5, 2) := by decide +kernel
theorem dX12_takes_50 : decode cX12_takes 50 = .ok (.iinc 4 (-1), 3) := by decide +kernel
theorem dX12_takes_53 : decode cX12_takes 53 = .ok (.iinc 3 (-1), 3) := by decide +kernel
theorem dX12_takes_56 : decode cX12_takes 56 = .ok (.iinc 6 1, 3) := by decide +kernel
theorem dX12_takes_59 : decode cX12_takes 59 = .ok (.goto (-45), 3) := by decide +kernel
theorem dX12_takes_62 : decode cX12_takes 62 = .ok (.iload 5, 2) := by decide +kernel
theorem dX12_takes_64 : decode cX12_takes 64 = .ok (.ireturn, 1) := by decide +kernel
theorem dX12_bitsOf_0 : decode cX12_bitsOf 0 = .ok (.iconst 0, 1) := by decide +kernel
theorem dX12_bitsOf_1 : decode cX12_bitsOf 1 = .ok (.istore_n 3, 1) := by decide +kernel
theorem dX12_bitsOf_2 : decode cX12_bitsOf 2 = .ok (.iconst 0, 1) := by decide +kernel
theorem dX12_bitsOf_3 : decode cX12_bitsOf 3 = .ok (.istore 4, 2) := by decide +kernel
theorem dX12_bitsOf_5 : decode cX12_bitsOf 5 = .ok (.iload 4, 2) := by decide +kernel
theorem dX12_bitsOf_7 : decode cX12_bitsOf 7 = .ok (.aload_n 0, 1) := by decide +kernel
theorem dX12_bitsOf_8 : decode cX12_bitsOf 8 = .ok (.getfield 115, 3) := by decide +kernel
theorem dX12_bitsOf_11 : decode cX12_bitsOf 11 = .ok (.if_icmp .ge 45, 3) := by decide +kernel
theorem dX12_bitsOf_14 : decode cX12_bitsOf 14 = .ok (.iload_n 3, 1) := by decide +kernel
theorem dX12_bitsOf_15 : decode cX12_bitsOf 15 = .ok (.iload_n 1, 1) := by decide +kernel
theorem dX12_bitsOf_16 : decode cX12_bitsOf 16 = .ok (.ifCond .ne 13, 3) := by decide +kernel
theorem dX12_bitsOf_19 : decode cX12_bitsOf 19 = .ok (.aload_n 0, 1) := by decide +kernel
theorem dX12_bitsOf_20 : decode cX12_bitsOf 20 = .ok (.getfield 22, 3) := by decide +kernel
theorem dX12_bitsOf_23 : decode cX12_bitsOf 23 = .ok (.iload 4, 2) := by decide +kernel
theorem dX12_bitsOf_25 : decode cX12_bitsOf 25 = .ok (.iaload, 1) := by decide +kernel
theorem dX12_bitsOf_26 : decode cX12_bitsOf 26 = .ok (.goto 10, 3) := by decide +kernel
theorem dX12_bitsOf_29 : decode cX12_bitsOf 29 = .ok (.aload_n 0, 1) := by decide +kernel
theorem dX12_bitsOf_30 : decode cX12_bitsOf 30 = .ok (.getfield 25, 3) := by decide +kernel
theorem dX12_bitsOf_33 : decode cX12_bitsOf 33 = .ok (.iload 4, 2) := by decide +kernel
theorem dX12_bitsOf_35 : decode cX12_bitsOf 35 = .ok (.iaload, 1) := by decide +kernel
theorem dX12_bitsOf_36 : decode cX12_bitsOf 36 = .ok (.iload_n 2, 1) := by decide +kernel
theorem dX12_bitsOf_37 : decode cX12_bitsOf 37 = .ok (.if_icmp .ne 10, 3) := by decide +kernel
theorem dX12_bitsOf_40 : decode cX12_bitsOf 40 = .ok (.iconst 1, 1) := by decide +kernel
theorem dX12_bitsOf_41 : decode cX12_bitsOf 41 = .ok (.iload 4, 2) := by decide +kernel
theorem dX12_bitsOf_43 : decode cX12_bitsOf 43 = .ok (.ishl, 1) := by decide +kernel
theorem dX12_bitsOf_44 : decode cX12_bitsOf 44 = .ok (.goto 4, 3) := by decide +kernel
theorem dX12_bitsOf_47 : decode cX12_bitsOf 47 = .ok (.iconst 0, 1) := by decide +kernel
theorem dX12_bitsOf_48 : decode cX12_bitsOf 48 = .ok (.ior, 1) := by decide +kernel
theorem dX12_bitsOf_49 : decode cX12_bitsOf 49 = .ok (.istore_n 3, 1) := by decide +kernel
theorem dX12_bitsOf_50 : decode cX12_bitsOf 50 = .ok (.iinc 4 1, 3) := by decide +kernel
theorem dX12_bitsOf_53 : decode cX12_bitsOf 53 = .ok (.goto (-48), 3) := by decide +kernel
theorem dX12_bitsOf_56 : decode cX12_bitsOf 56 = .ok (.iload_n 3, 1) := by decide +kernel
theorem dX12_bitsOf_57 : decode cX12_bitsOf 57 = .ok (.ireturn, 1) := by decide +kernel
theorem dX12_allBits_0 : decode cX12_allBits 0 = .ok (.iconst 0, 1) := by decide +kernel
theorem dX12_allBits_1 : decode cX12_allBits 1 = .ok (.istore_n 1, 1) := by decide +kernel
theorem dX12_allBits_2 : decode cX12_allBits 2 = .ok (.iconst 0, 1) := by decide +kernel
theorem dX12_allBits_3 : decode cX12_allBits 3 = .ok (.istore_n 2, 1) := by decide +kernel
theorem dX12_allBits_4 : decode cX12_allBits 4 = .ok (.iload_n 2, 1) := by decide +kernel
theorem dX12_allBits_5 : decode cX12_allBits 5 = .ok (.aload_n 0, 1) := by decide +kernel
theorem dX12_allBits_6 : decode cX12_allBits 6 = .ok (.getfield 115, 3) := by decide +kernel
theorem dX12_allBits_9 : decode cX12_allBits 9 = .ok (.if_icmp .ge 15, 3) := by decide +kernel
theorem dX12_allBits_12 : decode cX12_allBits 12 = .ok (.iload_n 1, 1) := by decide +kernel
theorem dX12_allBits_13 : decode cX12_allBits 13 = .ok (.iconst 1, 1) := by decide +kernel
theorem dX12_allBits_14 : decode cX12_allBits 14 = .ok (.iload_n 2, 1) := by decide +kernel
theorem dX12_allBits_15 : decode cX12_allBits 15 = .ok (.ishl, 1) := by decide +kernel
theorem dX12_allBits_16 : decode cX12_allBits 16 = .ok (.ior, 1) := by decide +kernel
theorem dX12_allBits_17 : decode cX12_allBits 17 = .ok (.istore_n 1, 1) := by decide +kernel
theorem dX12_allBits_18 : decode cX12_allBits 18 = .ok (.iinc 2 1, 3) := by decide +kernel
theorem dX12_allBits_21 : decode cX12_allBits 21 = .ok (.goto (-17), 3) := by decide +kernel
theorem dX12_allBits_24 : decode cX12_allBits 24 = .ok (.iload_n 1, 1) := by decide +kernel
theorem dX12_allBits_25 : decode cX12_allBits 25 = .ok (.ireturn, 1) := by decide +kernel
theorem dX12_lotsNow_0 : decode cX12_lotsNow 0 = .ok (.aload_n 0, 1) := by decide +kernel
theorem dX12_lotsNow_1 : decode cX12_lotsNow 1 = .ok (.iload_n 1, 1) := by decide +kernel
theorem dX12_lotsNow_2 : decode cX12_lotsNow 2 = .ok (.putfield 248, 3) := by decide +kernel
theorem dX12_lotsNow_5 : decode cX12_lotsNow 5 = .ok (.aload_n 0, 1) := by decide +kernel
theorem dX12_lotsNow_6 : decode cX12_lotsNow 6 = .ok (.invokevirtual 220, 3) := by decide +kernel
theorem dX12_lotsNow_9 : decode cX12_lotsNow 9 = .ok (.ifCond .eq 17, 3) := by decide +kernel
theorem dX12_lotsNow_12 : decode cX12_lotsNow 12 = .ok (.aload_n 0, 1) := by decide +kernel
theorem dX12_lotsNow_13 : decode cX12_lotsNow 13 = .ok (.aload_n 0, 1) := by decide +kernel
theorem dX12_lotsNow_14 : decode cX12_lotsNow 14 = .ok (.aload_n 0, 1) := by decide +kernel
theorem dX12_lotsNow_15 : decode cX12_lotsNow 15 = .ok (.invokevirtual 202, 3) := by decide +kernel
theorem dX12_lotsNow_18 : decode cX12_lotsNow 18 = .ok (.l2i, 1) := by decide +kernel
theorem dX12_lotsNow_19 : decode cX12_lotsNow 19 = .ok (.invokevirtual 251, 3) := by decide +kernel
theorem dX12_lotsNow_22 : decode cX12_lotsNow 22 = .ok (.invokevirtual 217, 3) := by decide +kernel
theorem dX12_lotsNow_25 : decode cX12_lotsNow 25 = .ok (.ireturn, 1) := by decide +kernel
theorem dX12_lotsNow_26 : decode cX12_lotsNow 26 = .ok (.aload_n 0, 1) := by decide +kernel
theorem dX12_lotsNow_27 : decode cX12_lotsNow 27 = .ok (.getfield 166, 3) := by decide +kernel
theorem dX12_lotsNow_30 : decode cX12_lotsNow 30 = .ok (.bipush 97, 2) := by decide +kernel
theorem dX12_lotsNow_32 : decode cX12_lotsNow 32 = .ok (.if_icmp .ne 18, 3) := by decide +kernel
theorem dX12_lotsNow_35 : decode cX12_lotsNow 35 = .ok (.aload_n 0, 1) := by decide +kernel
theorem dX12_lotsNow_36 : decode cX12_lotsNow 36 = .ok (.aload_n 0, 1) := by decide +kernel
theorem dX12_lotsNow_37 : decode cX12_lotsNow 37 = .ok (.invokevirtual 254, 3) := by decide +kernel
theorem dX12_lotsNow_40 : decode cX12_lotsNow 40 = .ok (.aload_n 0, 1) := by decide +kernel
theorem dX12_lotsNow_41 : decode cX12_lotsNow 41 = .ok (.getfield 53, 3) := by decide +kernel
theorem dX12_lotsNow_44 : decode cX12_lotsNow 44 = .ok (.iconst 0, 1) := by decide +kernel
theorem dX12_lotsNow_45 : decode cX12_lotsNow 45 = .ok (.iaload, 1) := by decide +kernel
theorem dX12_lotsNow_46 : decode cX12_lotsNow 46 = .ok (.invokevirtual 257, 3) := by decide +kernel
theorem dX12_lotsNow_49 : decode cX12_lotsNow 49 = .ok (.ireturn, 1) := by decide +kernel
theorem dX12_lotsNow_50 : decode cX12_lotsNow 50 = .ok (.iconst 0, 1) := by decide +kernel
theorem dX12_lotsNow_51 : decode cX12_lotsNow 51 = .ok (.istore_n 2, 1) := by decide +kernel
theorem dX12_lotsNow_52 : decode cX12_lotsNow 52 = .ok (.aload_n 0, 1) := by decide +kernel
theorem dX12_lotsNow_53 : decode cX12_lotsNow 53 = .ok (.getfield 166, 3) := by decide +kernel
theorem dX12_lotsNow_56 : decode cX12_lotsNow 56 = .ok (.bipush 108, 2) := by decide +kernel
theorem dX12_lotsNow_58 : decode cX12_lotsNow 58 = .ok (.if_icmp .ne 37, 3) := by decide +kernel
theorem dX12_lotsNow_61 : decode cX12_lotsNow 61 = .ok (.iconst 0, 1) := by decide +kernel
theorem dX12_lotsNow_62 : decode cX12_lotsNow 62 = .ok (.istore_n 3, 1) := by decide +kernel
theorem dX12_lotsNow_63 : decode cX12_lotsNow 63 = .ok (.iload_n 3, 1) := by decide +kernel
theorem dX12_lotsNow_64 : decode cX12_lotsNow 64 = .ok (.iconst 4, 1) := by decide +kernel
theorem dX12_lotsNow_65 : decode cX12_lotsNow 65 = .ok (.if_icmp .ge 28, 3) := by decide +kernel
theorem dX12_lotsNow_68 : decode cX12_lotsNow 68 = .ok (.iload_n 2, 1) := by decide +kernel
theorem dX12_lotsNow_69 : decode cX12_lotsNow 69 = .ok (.aload_n 0, 1) := by decide +kernel
theorem dX12_lotsNow_70 : decode cX12_lotsNow 70 = .ok (.aload_n 0, 1) := by decide +kernel
theorem dX12_lotsNow_71 : decode cX12_lotsNow 71 = .ok (.iconst 0, 1) := by decide +kernel
theorem dX12_lotsNow_72 : decode cX12_lotsNow 72 = .ok (.iload_n 3, 1) := by decide +kernel
theorem dX12_lotsNow_73 : decode cX12_lotsNow 73 = .ok (.invokevirtual 260, 3) := by decide +kernel
theorem dX12_lotsNow_76 : decode cX12_lotsNow 76 = .ok (.aload_n 0, 1) := by decide +kernel
theorem dX12_lotsNow_77 : decode cX12_lotsNow 77 = .ok (.getfield 53, 3) := by decide +kernel
theorem dX12_lotsNow_80 : decode cX12_lotsNow 80 = .ok (.iload_n 3, 1) := by decide +kernel
theorem dX12_lotsNow_81 : decode cX12_lotsNow 81 = .ok (.iaload, 1) := by decide +kernel
theorem dX12_lotsNow_82 : decode cX12_lotsNow 82 = .ok (.invokevirtual 257, 3) := by decide +kernel
theorem dX12_lotsNow_85 : decode cX12_lotsNow 85 = .ok (.ior, 1) := by decide +kernel
theorem dX12_lotsNow_86 : decode cX12_lotsNow 86 = .ok (.istore_n 2, 1) := by decide +kernel
theorem dX12_lotsNow_87 : decode cX12_lotsNow 87 = .ok (.iinc 3 1, 3) := by decide +kernel
theorem dX12_lotsNow_90 : decode cX12_lotsNow 90 = .ok (.goto (-27), 3) := by decide +kernel
theorem dX12_lotsNow_93 : decode cX12_lotsNow 93 = .ok (.iload_n 2, 1) := by decide +kernel
theorem dX12_lotsNow_94 : decode cX12_lotsNow 94 = .ok (.ireturn, 1) := by decide +kernel
theorem dX12_lotsNow_95 : decode cX12_lotsNow 95 = .ok (.iconst 0, 1) := by decide +kernel
theorem dX12_lotsNow_96 : decode cX12_lotsNow 96 = .ok (.istore_n 3, 1) := by decide +kernel
theorem dX12_lotsNow_97 : decode cX12_lotsNow 97 = .ok (.iconst 0, 1) := by decide +kernel
theorem dX12_lotsNow_98 : decode cX12_lotsNow 98 = .ok (.istore 4, 2) := by decide +kernel
theorem dX12_lotsNow_100 : decode cX12_lotsNow 100 = .ok (.iload 4, 2) := by decide +kernel
theorem dX12_lotsNow_102 : decode cX12_lotsNow 102 = .ok (.bipush 8, 2) := by decide +kernel
theorem dX12_lotsNow_104 : decode cX12_lotsNow 104 = .ok (.if_icmp .ge 30, 3) := by decide +kernel
theorem dX12_lotsNow_107 : decode cX12_lotsNow 107 = .ok (.iload_n 3, 1) := by decide +kernel
theorem dX12_lotsNow_108 : decode cX12_lotsNow 108 = .ok (.aload_n 0, 1) := by decide +kernel
theorem dX12_lotsNow_109 : decode cX12_lotsNow 109 = .ok (.iconst 1, 1) := by decide +kernel
theorem dX12_lotsNow_110 : decode cX12_lotsNow 110 = .ok (.iload 4, 2) := by decide +kernel
theorem dX12_lotsNow_112 : decode cX12_lotsNow 112 = .ok (.invokevirtual 144, 3) := by decide +kernel
theorem dX12_lotsNow_115 : decode cX12_lotsNow 115 = .ok (.ifCond .le 10, 3) := by decide +kernel
theorem dX12_lotsNow_118 : decode cX12_lotsNow 118 = .ok (.iconst 1, 1) := by decide +kernel
theorem dX12_lotsNow_119 : decode cX12_lotsNow 119 = .ok (.iload 4, 2) := by decide +kernel
theorem dX12_lotsNow_121 : decode cX12_lotsNow 121 = .ok (.ishl, 1) := by decide +kernel
theorem dX12_lotsNow_122 : decode cX12_lotsNow 122 = .ok (.goto 4, 3) := by decide +kernel
theorem dX12_lotsNow_125 : decode cX12_lotsNow 125 = .ok (.iconst 0, 1) := by decide +kernel
theorem dX12_lotsNow_126 : decode cX12_lotsNow 126 = .ok (.ior, 1) := by decide +kernel
theorem dX12_lotsNow_127 : decode cX12_lotsNow 127 = .ok (.istore_n 3, 1) := by decide +kernel
theorem dX12_lotsNow_128 : decode cX12_lotsNow 128 = .ok (.iinc 4 1, 3) := by decide +kernel
theorem dX12_lotsNow_131 : decode cX12_lotsNow 131 = .ok (.goto (-31), 3) := by decide +kernel
theorem dX12_lotsNow_134 : decode cX12_lotsNow 134 = .ok (.aload_n 0, 1) := by decide +kernel
theorem dX12_lotsNow_135 : decode cX12_lotsNow 135 = .ok (.iload_n 3, 1) := by decide +kernel
theorem dX12_lotsNow_136 : decode cX12_lotsNow 136 = .ok (.aload_n 0, 1) := by decide +kernel
theorem dX12_lotsNow_137 : decode cX12_lotsNow 137 = .ok (.getfield 53, 3) := by decide +kernel
theorem dX12_lotsNow_140 : decode cX12_lotsNow 140 = .ok (.iconst 0, 1) := by decide +kernel
theorem dX12_lotsNow_141 : decode cX12_lotsNow 141 = .ok (.iaload, 1) := by decide +kernel
theorem dX12_lotsNow_142 : decode cX12_lotsNow 142 = .ok (.invokevirtual 257, 3) := by decide +kernel
theorem dX12_lotsNow_145 : decode cX12_lotsNow 145 = .ok (.istore 4, 2) := by decide +kernel
theorem dX12_lotsNow_147 : decode cX12_lotsNow 147 = .ok (.iconst 0, 1) := by decide +kernel
theorem dX12_lotsNow_148 : decode cX12_lotsNow 148 = .ok (.istore 5, 2) := by decide +kernel
theorem dX12_lotsNow_150 : decode cX12_lotsNow 150 = .ok (.iload 5, 2) := by decide +kernel
theorem dX12_lotsNow_152 : decode cX12_lotsNow 152 = .ok (.bipush 8, 2) := by decide +kernel
theorem dX12_lotsNow_154 : decode cX12_lotsNow 154 = .ok (.if_icmp .ge 44, 3) := by decide +kernel
theorem dX12_lotsNow_157 : decode cX12_lotsNow 157 = .ok (.iload_n 2, 1) := by decide +kernel
theorem dX12_lotsNow_158 : decode cX12_lotsNow 158 = .ok (.iload 4, 2) := by decide +kernel
theorem dX12_lotsNow_160 : decode cX12_lotsNow 160 = .ok (.iload 5, 2) := by decide +kernel
theorem dX12_lotsNow_162 : decode cX12_lotsNow 162 = .ok (.ishr, 1) := by decide +kernel
theorem dX12_lotsNow_163 : decode cX12_lotsNow 163 = .ok (.iconst 1, 1) := by decide +kernel
theorem dX12_lotsNow_164 : decode cX12_lotsNow 164 = .ok (.iand, 1) := by decide +kernel
theorem dX12_lotsNow_165 : decode cX12_lotsNow 165 = .ok (.iconst 1, 1) := by decide +kernel
theorem dX12_lotsNow_166 : decode cX12_lotsNow 166 = .ok (.if_icmp .ne 23, 3) := by decide +kernel
theorem dX12_lotsNow_169 : decode cX12_lotsNow 169 = .ok (.aload_n 0, 1) := by decide +kernel
theorem dX12_lotsNow_170 : decode cX12_lotsNow 170 = .ok (.aload_n 0, 1) := by decide +kernel
theorem dX12_lotsNow_171 : decode cX12_lotsNow 171 = .ok (.iconst 1, 1) := by decide +kernel
theorem dX12_lotsNow_172 : decode cX12_lotsNow 172 = .ok (.iload 5, 2) := by decide +kernel
theorem dX12_lotsNow_174 : decode cX12_lotsNow 174 = .ok (.invokevirtual 260, 3) := by decide +kernel
theorem dX12_lotsNow_177 : decode cX12_lotsNow 177 = .ok (.aload_n 0, 1) := by decide +kernel
theorem dX12_lotsNow_178 : decode cX12_lotsNow 178 = .ok (.iload 5, 2) := by decide +kernel
theorem dX12_lotsNow_180 : decode cX12_lotsNow 180 = .ok (.invokevirtual 195, 3) := by decide +kernel
theorem dX12_lotsNow_183 : decode cX12_lotsNow 183 = .ok (.invokevirtual 257, 3) := by decide +kernel
theorem dX12_lotsNow_186 : decode cX12_lotsNow 186 = .ok (.goto 4, 3) := by decide +kernel
