theorem d_JI_bitCount_0 : decode c_JI_bitCount 0 = .ok (.iload_n 0, 1) := by decide +kernel
theorem d_JI_bitCount_1 : decode c_JI_bitCount 1 = .ok (.iload_n 0, 1) := by decide +kernel
theorem d_JI_bitCount_2 : decode c_JI_bitCount 2 = .ok (.iconst 1, 1) := by decide +kernel
theorem d_JI_bitCount_3 : decode c_JI_bitCount 3 = .ok (.iushr, 1) := by decide +kernel
theorem d_JI_bitCount_4 : decode c_JI_bitCount 4 = .ok (.ldc_w 265, 3) := by decide +kernel
theorem d_JI_bitCount_7 : decode c_JI_bitCount 7 = .ok (.iand, 1) := by decide +kernel
theorem d_JI_bitCount_8 : decode c_JI_bitCount 8 = .ok (.isub, 1) := by decide +kernel
theorem d_JI_bitCount_9 : decode c_JI_bitCount 9 = .ok (.istore_n 0, 1) := by decide +kernel
theorem d_JI_bitCount_10 : decode c_JI_bitCount 10 = .ok (.iload_n 0, 1) := by decide +kernel
theorem d_JI_bitCount_11 : decode c_JI_bitCount 11 = .ok (.ldc_w 266, 3) := by decide +kernel
theorem d_JI_bitCount_14 : decode c_JI_bitCount 14 = .ok (.iand, 1) := by decide +kernel
theorem d_JI_bitCount_15 : decode c_JI_bitCount 15 = .ok (.iload_n 0, 1) := by decide +kernel
theorem d_JI_bitCount_16 : decode c_JI_bitCount 16 = .ok (.iconst 2, 1) := by decide +kernel
theorem d_JI_bitCount_17 : decode c_JI_bitCount 17 = .ok (.iushr, 1) := by decide +kernel
theorem d_JI_bitCount_18 : decode c_JI_bitCount 18 = .ok (.ldc_w 266, 3) := by decide +kernel
theorem d_JI_bitCount_21 : decode c_JI_bitCount 21 = .ok (.iand, 1) := by decide +kernel
theorem d_JI_bitCount_22 : decode c_JI_bitCount 22 = .ok (.iadd, 1) := by decide +kernel
theorem d_JI_bitCount_23 : decode c_JI_bitCount 23 = .ok (.istore_n 0, 1) := by decide +kernel
theorem d_JI_bitCount_24 : decode c_JI_bitCount 24 = .ok (.iload_n 0, 1) := by decide +kernel
theorem d_JI_bitCount_25 : decode c_JI_bitCount 25 = .ok (.iload_n 0, 1) := by decide +kernel
theorem d_JI_bitCount_26 : decode c_JI_bitCount 26 = .ok (.iconst 4, 1) := by decide +kernel
theorem d_JI_bitCount_27 : decode c_JI_bitCount 27 = .ok (.iushr, 1) := by decide +kernel
theorem d_JI_bitCount_28 : decode c_JI_bitCount 28 = .ok (.iadd, 1) := by decide +kernel
theorem d_JI_bitCount_29 : decode c_JI_bitCount 29 = .ok (.ldc_w 267, 3) := by decide +kernel
theorem d_JI_bitCount_32 : decode c_JI_bitCount 32 = .ok (.iand, 1) := by decide +kernel
theorem d_JI_bitCount_33 : decode c_JI_bitCount 33 = .ok (.istore_n 0, 1) := by decide +kernel
theorem d_JI_bitCount_34 : decode c_JI_bitCount 34 = .ok (.iload_n 0, 1) := by decide +kernel
theorem d_JI_bitCount_35 : decode c_JI_bitCount 35 = .ok (.iload_n 0, 1) := by decide +kernel
theorem d_JI_bitCount_36 : decode c_JI_bitCount 36 = .ok (.bipush 8, 2) := by decide +kernel
theorem d_JI_bitCount_38 : decode c_JI_bitCount 38 = .ok (.iushr, 1) := by decide +kernel
theorem d_JI_bitCount_39 : decode c_JI_bitCount 39 = .ok (.iadd, 1) := by decide +kernel
theorem d_JI_bitCount_40 : decode c_JI_bitCount 40 = .ok (.istore_n 0, 1) := by decide +kernel
theorem d_JI_bitCount_41 : decode c_JI_bitCount 41 = .ok (.iload_n 0, 1) := by decide +kernel
theorem d_JI_bitCount_42 : decode c_JI_bitCount 42 = .ok (.iload_n 0, 1) := by decide +kernel
theorem d_JI_bitCount_43 : decode c_JI_bitCount 43 = .ok (.bipush 16, 2) := by decide +kernel
theorem d_JI_bitCount_45 : decode c_JI_bitCount 45 = .ok (.iushr, 1) := by decide +kernel
theorem d_JI_bitCount_46 : decode c_JI_bitCount 46 = .ok (.iadd, 1) := by decide +kernel
theorem d_JI_bitCount_47 : decode c_JI_bitCount 47 = .ok (.istore_n 0, 1) := by decide +kernel
theorem d_JI_bitCount_48 : decode c_JI_bitCount 48 = .ok (.iload_n 0, 1) := by decide +kernel
theorem d_JI_bitCount_49 : decode c_JI_bitCount 49 = .ok (.bipush 63, 2) := by decide +kernel
theorem d_JI_bitCount_51 : decode c_JI_bitCount 51 = .ok (.iand, 1) := by decide +kernel
theorem d_JI_bitCount_52 : decode c_JI_bitCount 52 = .ok (.ireturn, 1) := by decide +kernel
theorem d_Mi_timeOf_0 : decode c_Mi_timeOf 0 = .ok (.iload_n 1, 1) := by decide +kernel
theorem d_Mi_timeOf_1 : decode c_Mi_timeOf 1 = .ok (.iconst 1, 1) := by decide +kernel
theorem d_Mi_timeOf_2 : decode c_Mi_timeOf 2 = .ok (.if_icmp .ge 7, 3) := by decide +kernel
theorem d_Mi_timeOf_5 : decode c_Mi_timeOf 5 = .ok (.iconst 0, 1) := by decide +kernel
theorem d_Mi_timeOf_6 : decode c_Mi_timeOf 6 = .ok (.goto 20, 3) := by decide +kernel
theorem d_Mi_timeOf_9 : decode c_Mi_timeOf 9 = .ok (.iload_n 1, 1) := by decide +kernel
theorem d_Mi_timeOf_10 : decode c_Mi_timeOf 10 = .ok (.aload_n 0, 1) := by decide +kernel
theorem d_Mi_timeOf_11 : decode c_Mi_timeOf 11 = .ok (.iconst 0, 1) := by decide +kernel
theorem d_Mi_timeOf_12 : decode c_Mi_timeOf 12 = .ok (.invokevirtual 85, 3) := by decide +kernel
theorem d_Mi_timeOf_15 : decode c_Mi_timeOf 15 = .ok (.imul, 1) := by decide +kernel
theorem d_Mi_timeOf_16 : decode c_Mi_timeOf 16 = .ok (.iload_n 1, 1) := by decide +kernel
theorem d_Mi_timeOf_17 : decode c_Mi_timeOf 17 = .ok (.iconst 1, 1) := by decide +kernel
theorem d_Mi_timeOf_18 : decode c_Mi_timeOf 18 = .ok (.isub, 1) := by decide +kernel
theorem d_Mi_timeOf_19 : decode c_Mi_timeOf 19 = .ok (.aload_n 0, 1) := by decide +kernel
theorem d_Mi_timeOf_20 : decode c_Mi_timeOf 20 = .ok (.iconst 1, 1) := by decide +kernel
theorem d_Mi_timeOf_21 : decode c_Mi_timeOf 21 = .ok (.invokevirtual 85, 3) := by decide +kernel
theorem d_Mi_timeOf_24 : decode c_Mi_timeOf 24 = .ok (.imul, 1) := by decide +kernel
theorem d_Mi_timeOf_25 : decode c_Mi_timeOf 25 = .ok (.iadd, 1) := by decide +kernel
theorem d_Mi_timeOf_26 : decode c_Mi_timeOf 26 = .ok (.ireturn, 1) := by decide +kernel
theorem d_Mi_reckonAlone_0 : decode c_Mi_reckonAlone 0 = .ok (.aload_n 0, 1) := by decide +kernel
theorem d_Mi_reckonAlone_1 : decode c_Mi_reckonAlone 1 = .ok (.getfield 21, 3) := by decide +kernel
theorem d_Mi_reckonAlone_4 : decode c_Mi_reckonAlone 4 = .ok (.iconst 0, 1) := by decide +kernel
theorem d_Mi_reckonAlone_5 : decode c_Mi_reckonAlone 5 = .ok (.iconst 0, 1) := by decide +kernel
theorem d_Mi_reckonAlone_6 : decode c_Mi_reckonAlone 6 = .ok (.iastore, 1) := by decide +kernel
theorem d_Mi_reckonAlone_7 : decode c_Mi_reckonAlone 7 = .ok (.iconst 0, 1) := by decide +kernel
theorem d_Mi_reckonAlone_8 : decode c_Mi_reckonAlone 8 = .ok (.istore 4, 2) := by decide +kernel
theorem d_Mi_reckonAlone_10 : decode c_Mi_reckonAlone 10 = .ok (.iload 4, 2) := by decide +kernel
theorem d_Mi_reckonAlone_12 : decode c_Mi_reckonAlone 12 = .ok (.aload_n 0, 1) := by decide +kernel
theorem d_Mi_reckonAlone_13 : decode c_Mi_reckonAlone 13 = .ok (.getfield 31, 3) := by decide +kernel
theorem d_Mi_reckonAlone_16 : decode c_Mi_reckonAlone 16 = .ok (.iconst 5, 1) := by decide +kernel
theorem d_Mi_reckonAlone_17 : decode c_Mi_reckonAlone 17 = .ok (.invokestatic 39, 3) := by decide +kernel
theorem d_Mi_reckonAlone_20 : decode c_Mi_reckonAlone 20 = .ok (.if_icmp .ge 98, 3) := by decide +kernel
theorem d_Mi_reckonAlone_23 : decode c_Mi_reckonAlone 23 = .ok (.iconst 1, 1) := by decide +kernel
theorem d_Mi_reckonAlone_24 : decode c_Mi_reckonAlone 24 = .ok (.iload 4, 2) := by decide +kernel
theorem d_Mi_reckonAlone_26 : decode c_Mi_reckonAlone 26 = .ok (.ishl, 1) := by decide +kernel
theorem d_Mi_reckonAlone_27 : decode c_Mi_reckonAlone 27 = .ok (.istore 5, 2) := by decide +kernel
theorem d_Mi_reckonAlone_29 : decode c_Mi_reckonAlone 29 = .ok (.aload_n 0, 1) := by decide +kernel
theorem d_Mi_reckonAlone_30 : decode c_Mi_reckonAlone 30 = .ok (.aload_n 1, 1) := by decide +kernel
theorem d_Mi_reckonAlone_31 : decode c_Mi_reckonAlone 31 = .ok (.iload_n 2, 1) := by decide +kernel
theorem d_Mi_reckonAlone_32 : decode c_Mi_reckonAlone 32 = .ok (.iload 4, 2) := by decide +kernel
theorem d_Mi_reckonAlone_34 : decode c_Mi_reckonAlone 34 = .ok (.invokevirtual 60, 3) := by decide +kernel
theorem d_Mi_reckonAlone_37 : decode c_Mi_reckonAlone 37 = .ok (.istore 6, 2) := by decide +kernel
theorem d_Mi_reckonAlone_39 : decode c_Mi_reckonAlone 39 = .ok (.iconst 0, 1) := by decide +kernel
theorem d_Mi_reckonAlone_40 : decode c_Mi_reckonAlone 40 = .ok (.istore 7, 2) := by decide +kernel
theorem d_Mi_reckonAlone_42 : decode c_Mi_reckonAlone 42 = .ok (.iload 7, 2) := by decide +kernel
theorem d_Mi_reckonAlone_44 : decode c_Mi_reckonAlone 44 = .ok (.iload 5, 2) := by decide +kernel
theorem d_Mi_reckonAlone_46 : decode c_Mi_reckonAlone 46 = .ok (.if_icmp .ge 66, 3) := by decide +kernel
theorem d_Mi_reckonAlone_49 : decode c_Mi_reckonAlone 49 = .ok (.aload_n 1, 1) := by decide +kernel
theorem d_Mi_reckonAlone_50 : decode c_Mi_reckonAlone 50 = .ok (.iload 7, 2) := by decide +kernel
theorem d_Mi_reckonAlone_52 : decode c_Mi_reckonAlone 52 = .ok (.invokestatic 64, 3) := by decide +kernel
theorem d_Mi_reckonAlone_55 : decode c_Mi_reckonAlone 55 = .ok (.iconst 1, 1) := by decide +kernel
theorem d_Mi_reckonAlone_56 : decode c_Mi_reckonAlone 56 = .ok (.iadd, 1) := by decide +kernel
theorem d_Mi_reckonAlone_57 : decode c_Mi_reckonAlone 57 = .ok (.invokestatic 70, 3) := by decide +kernel
theorem d_Mi_reckonAlone_60 : decode c_Mi_reckonAlone 60 = .ok (.iload_n 3, 1) := by decide +kernel
theorem d_Mi_reckonAlone_61 : decode c_Mi_reckonAlone 61 = .ok (.if_icmp .gt 7, 3) := by decide +kernel
theorem d_Mi_reckonAlone_64 : decode c_Mi_reckonAlone 64 = .ok (.iconst 1, 1) := by decide +kernel
theorem d_Mi_reckonAlone_65 : decode c_Mi_reckonAlone 65 = .ok (.goto 4, 3) := by decide +kernel
theorem d_Mi_reckonAlone_68 : decode c_Mi_reckonAlone 68 = .ok (.iconst 0, 1) := by decide +kernel
theorem d_Mi_reckonAlone_69 : decode c_Mi_reckonAlone 69 = .ok (.istore 8, 2) := by decide +kernel
theorem d_Mi_reckonAlone_71 : decode c_Mi_reckonAlone 71 = .ok (.aload_n 0, 1) := by decide +kernel
theorem d_Mi_reckonAlone_72 : decode c_Mi_reckonAlone 72 = .ok (.getfield 21, 3) := by decide +kernel
theorem d_Mi_reckonAlone_75 : decode c_Mi_reckonAlone 75 = .ok (.iload 5, 2) := by decide +kernel
theorem d_Mi_reckonAlone_77 : decode c_Mi_reckonAlone 77 = .ok (.iload 7, 2) := by decide +kernel
theorem d_Mi_reckonAlone_79 : decode c_Mi_reckonAlone 79 = .ok (.iadd, 1) := by decide +kernel
theorem d_Mi_reckonAlone_80 : decode c_Mi_reckonAlone 80 = .ok (.iload 8, 2) := by decide +kernel
theorem d_Mi_reckonAlone_82 : decode c_Mi_reckonAlone 82 = .ok (.ifCond .eq 21, 3) := by decide +kernel
theorem d_Mi_reckonAlone_85 : decode c_Mi_reckonAlone 85 = .ok (.ldc 45, 2) := by decide +kernel
theorem d_Mi_reckonAlone_87 : decode c_Mi_reckonAlone 87 = .ok (.aload_n 0, 1) := by decide +kernel
theorem d_Mi_reckonAlone_88 : decode c_Mi_reckonAlone 88 = .ok (.getfield 21, 3) := by decide +kernel
theorem d_Mi_reckonAlone_91 : decode c_Mi_reckonAlone 91 = .ok (.iload 7, 2) := by decide +kernel
theorem d_Mi_reckonAlone_93 : decode c_Mi_reckonAlone 93 = .ok (.iaload, 1) := by decide +kernel
theorem d_Mi_reckonAlone_94 : decode c_Mi_reckonAlone 94 = .ok (.iload 6, 2) := by decide +kernel
theorem d_Mi_reckonAlone_96 : decode c_Mi_reckonAlone 96 = .ok (.iadd, 1) := by decide +kernel
theorem d_Mi_reckonAlone_97 : decode c_Mi_reckonAlone 97 = .ok (.invokestatic 39, 3) := by decide +kernel
theorem d_Mi_reckonAlone_100 : decode c_Mi_reckonAlone 100 = .ok (.goto 5, 3) := by decide +kernel
theorem d_Mi_reckonAlone_103 : decode c_Mi_reckonAlone 103 = .ok (.ldc 45, 2) := by decide +kernel
theorem d_Mi_reckonAlone_105 : decode c_Mi_reckonAlone 105 = .ok (.iastore, 1) := by decide +kernel
theorem d_Mi_reckonAlone_106 : decode c_Mi_reckonAlone 106 = .ok (.iinc 7 1, 3) := by decide +kernel
theorem d_Mi_reckonAlone_109 : decode c_Mi_reckonAlone 109 = .ok (.goto (-67), 3) := by decide +kernel
theorem d_Mi_reckonAlone_112 : decode c_Mi_reckonAlone 112 = .ok (.iinc 4 1, 3) := by decide +kernel
theorem d_Mi_reckonAlone_115 : decode c_Mi_reckonAlone 115 = .ok (.goto (-105), 3) := by decide +kernel
theorem d_Mi_reckonAlone_118 : decode c_Mi_reckonAlone 118 = .ok (.return_, 1) := by decide +kernel
theorem d_Mi_all_0 : decode c_Mi_all 0 = .ok (.iconst 1, 1) := by decide +kernel
theorem d_Mi_all_1 : decode c_Mi_all 1 = .ok (.aload_n 0, 1) := by decide +kernel
theorem d_Mi_all_2 : decode c_Mi_all 2 = .ok (.getfield 31, 3) := by decide +kernel
theorem d_Mi_all_5 : decode c_Mi_all 5 = .ok (.iconst 5, 1) := by decide +kernel
theorem d_Mi_all_6 : decode c_Mi_all 6 = .ok (.invokestatic 39, 3) := by decide +kernel
theorem d_Mi_all_9 : decode c_Mi_all 9 = .ok (.ishl, 1) := by decide +kernel
theorem d_Mi_all_10 : decode c_Mi_all 10 = .ok (.iconst 1, 1) := by decide +kernel
theorem d_Mi_all_11 : decode c_Mi_all 11 = .ok (.isub, 1) := by decide +kernel
theorem d_Mi_all_12 : decode c_Mi_all 12 = .ok (.ireturn, 1) := by decide +kernel
theorem d_Mi_leastJoined_0 : decode c_Mi_leastJoined 0 = .ok (.iload_n 1, 1) := by decide +kernel
theorem d_Mi_leastJoined_1 : decode c_Mi_leastJoined 1 = .ok (.bipush 32, 2) := by decide +kernel
theorem d_Mi_leastJoined_3 : decode c_Mi_leastJoined 3 = .ok (.invokestatic 35, 3) := by decide +kernel
theorem d_Mi_leastJoined_6 : decode c_Mi_leastJoined 6 = .ok (.ifCond .ne 6, 3) := by decide +kernel
theorem d_Mi_leastJoined_9 : decode c_Mi_leastJoined 9 = .ok (.ldc 45, 2) := by decide +kernel
theorem d_Mi_leastJoined_11 : decode c_Mi_leastJoined 11 = .ok (.ireturn, 1) := by decide +kernel
theorem d_Mi_leastJoined_12 : decode c_Mi_leastJoined 12 = .ok (.aload_n 0, 1) := by decide +kernel
theorem d_Mi_leastJoined_13 : decode c_Mi_leastJoined 13 = .ok (.getfield 18, 3) := by decide +kernel
theorem d_Mi_leastJoined_16 : decode c_Mi_leastJoined 16 = .ok (.iload_n 1, 1) := by decide +kernel
theorem d_Mi_leastJoined_17 : decode c_Mi_leastJoined 17 = .ok (.iaload, 1) := by decide +kernel
theorem d_Mi_leastJoined_18 : decode c_Mi_leastJoined 18 = .ok (.istore_n 2, 1) := by decide +kernel
theorem d_Mi_leastJoined_19 : decode c_Mi_leastJoined 19 = .ok (.iconst 1, 1) := by decide +kernel
theorem d_Mi_leastJoined_20 : decode c_Mi_leastJoined 20 = .ok (.istore_n 3, 1) := by decide +kernel
theorem d_Mi_leastJoined_21 : decode c_Mi_leastJoined 21 = .ok (.iload_n 3, 1) := by decide +kernel
theorem d_Mi_leastJoined_22 : decode c_Mi_leastJoined 22 = .ok (.iload_n 1, 1) := by decide +kernel
theorem d_Mi_leastJoined_23 : decode c_Mi_leastJoined 23 = .ok (.if_icmp .gt 36, 3) := by decide +kernel
theorem d_Mi_leastJoined_26 : decode c_Mi_leastJoined 26 = .ok (.iload_n 3, 1) := by decide +kernel
theorem d_Mi_leastJoined_27 : decode c_Mi_leastJoined 27 = .ok (.iload_n 1, 1) := by decide +kernel
theorem d_Mi_leastJoined_28 : decode c_Mi_leastJoined 28 = .ok (.iand, 1) := by decide +kernel
theorem d_Mi_leastJoined_29 : decode c_Mi_leastJoined 29 = .ok (.iload_n 3, 1) := by decide +kernel
theorem d_Mi_leastJoined_30 : decode c_Mi_leastJoined 30 = .ok (.if_icmp .ne 23, 3) := by decide +kernel
theorem d_Mi_leastJoined_33 : decode c_Mi_leastJoined 33 = .ok (.iload_n 2, 1) := by decide +kernel
theorem d_Mi_leastJoined_34 : decode c_Mi_leastJoined 34 = .ok (.aload_n 0, 1) := by decide +kernel
theorem d_Mi_leastJoined_35 : decode c_Mi_leastJoined 35 = .ok (.getfield 18, 3) := by decide +kernel
theorem d_Mi_leastJoined_38 : decode c_Mi_leastJoined 38 = .ok (.iload_n 1, 1) := by decide +kernel
theorem d_Mi_leastJoined_39 : decode c_Mi_leastJoined 39 = .ok (.iload_n 3, 1) := by decide +kernel
theorem d_Mi_leastJoined_40 : decode c_Mi_leastJoined 40 = .ok (.isub, 1) := by decide +kernel
theorem d_Mi_leastJoined_41 : decode c_Mi_leastJoined 41 = .ok (.iaload, 1) := by decide +kernel
theorem d_Mi_leastJoined_42 : decode c_Mi_leastJoined 42 = .ok (.aload_n 0, 1) := by decide +kernel
theorem d_Mi_leastJoined_43 : decode c_Mi_leastJoined 43 = .ok (.getfield 21, 3) := by decide +kernel
theorem d_Mi_leastJoined_46 : decode c_Mi_leastJoined 46 = .ok (.iload_n 3, 1) := by decide +kernel
theorem d_Mi_leastJoined_47 : decode c_Mi_leastJoined 47 = .ok (.iaload, 1) := by decide +kernel
theorem d_Mi_leastJoined_48 : decode c_Mi_leastJoined 48 = .ok (.iadd, 1) := by decide +kernel
theorem d_Mi_leastJoined_49 : decode c_Mi_leastJoined 49 = .ok (.invokestatic 39, 3) := by decide +kernel
theorem d_Mi_leastJoined_52 : decode c_Mi_leastJoined 52 = .ok (.istore_n 2, 1) := by decide +kernel
theorem d_Mi_leastJoined_53 : decode c_Mi_leastJoined 53 = .ok (.iinc 3 1, 3) := by decide +kernel
theorem d_Mi_leastJoined_56 : decode c_Mi_leastJoined 56 = .ok (.goto (-35), 3) := by decide +kernel
theorem d_Mi_leastJoined_59 : decode c_Mi_leastJoined 59 = .ok (.iload_n 2, 1) := by decide +kernel
theorem d_Mi_leastJoined_60 : decode c_Mi_leastJoined 60 = .ok (.ireturn, 1) := by decide +kernel
theorem d_Mi_join_0 : decode c_Mi_join 0 = .ok (.aload_n 0, 1) := by decide +kernel
theorem d_Mi_join_1 : decode c_Mi_join 1 = .ok (.invokevirtual 88, 3) := by decide +kernel
theorem d_Mi_join_4 : decode c_Mi_join 4 = .ok (.istore_n 1, 1) := by decide +kernel
theorem d_Mi_join_5 : decode c_Mi_join 5 = .ok (.iload_n 1, 1) := by decide +kernel
theorem d_Mi_join_6 : decode c_Mi_join 6 = .ok (.iconst 1, 1) := by decide +kernel
theorem d_Mi_join_7 : decode c_Mi_join 7 = .ok (.if_icmp .lt 20, 3) := by decide +kernel
theorem d_Mi_join_10 : decode c_Mi_join 10 = .ok (.aload_n 0, 1) := by decide +kernel
theorem d_Mi_join_11 : decode c_Mi_join 11 = .ok (.getfield 18, 3) := by decide +kernel
theorem d_Mi_join_14 : decode c_Mi_join 14 = .ok (.iload_n 1, 1) := by decide +kernel
theorem d_Mi_join_15 : decode c_Mi_join 15 = .ok (.aload_n 0, 1) := by decide +kernel
theorem d_Mi_join_16 : decode c_Mi_join 16 = .ok (.iload_n 1, 1) := by decide +kernel
theorem d_Mi_join_17 : decode c_Mi_join 17 = .ok (.invokevirtual 92, 3) := by decide +kernel
theorem d_Mi_join_20 : decode c_Mi_join 20 = .ok (.iastore, 1) := by decide +kernel
theorem d_Mi_join_21 : decode c_Mi_join 21 = .ok (.iinc 1 (-1), 3) := by decide +kernel
theorem d_Mi_join_24 : decode c_Mi_join 24 = .ok (.goto (-19), 3) := by decide +kernel
theorem d_Mi_join_27 : decode c_Mi_join 27 = .ok (.return_, 1) := by decide +kernel
theorem d_Mi_reckon_0 : decode c_Mi_reckon 0 = .ok (.iconst 1, 1) := by decide +kernel
theorem d_Mi_reckon_1 : decode c_Mi_reckon 1 = .ok (.istore 4, 2) := by decide +kernel
theorem d_Mi_reckon_3 : decode c_Mi_reckon 3 = .ok (.iload 4, 2) := by decide +kernel
theorem d_Mi_reckon_5 : decode c_Mi_reckon 5 = .ok (.bipush 32, 2) := by decide +kernel
theorem d_Mi_reckon_7 : decode c_Mi_reckon 7 = .ok (.if_icmp .ge 18, 3) := by decide +kernel
theorem d_Mi_reckon_10 : decode c_Mi_reckon 10 = .ok (.aload_n 0, 1) := by decide +kernel
theorem d_Mi_reckon_11 : decode c_Mi_reckon 11 = .ok (.getfield 18, 3) := by decide +kernel
theorem d_Mi_reckon_14 : decode c_Mi_reckon 14 = .ok (.iload 4, 2) := by decide +kernel
theorem d_Mi_reckon_16 : decode c_Mi_reckon 16 = .ok (.ldc 45, 2) := by decide +kernel
theorem d_Mi_reckon_18 : decode c_Mi_reckon 18 = .ok (.iastore, 1) := by decide +kernel
theorem d_Mi_reckon_19 : decode c_Mi_reckon 19 = .ok (.iinc 4 1, 3) := by decide +kernel
theorem d_Mi_reckon_22 : decode c_Mi_reckon 22 = .ok (.goto (-19), 3) := by decide +kernel
theorem d_Mi_reckon_25 : decode c_Mi_reckon 25 = .ok (.aload_n 0, 1) := by decide +kernel
theorem d_Mi_reckon_26 : decode c_Mi_reckon 26 = .ok (.getfield 18, 3) := by decide +kernel
theorem d_Mi_reckon_29 : decode c_Mi_reckon 29 = .ok (.iconst 0, 1) := by decide +kernel
theorem d_Mi_reckon_30 : decode c_Mi_reckon 30 = .ok (.iconst 0, 1) := by decide +kernel
theorem d_Mi_reckon_31 : decode c_Mi_reckon 31 = .ok (.iastore, 1) := by decide +kernel
theorem d_Mi_reckon_32 : decode c_Mi_reckon 32 = .ok (.iconst 0, 1) := by decide +kernel
theorem d_Mi_reckon_33 : decode c_Mi_reckon 33 = .ok (.istore 4, 2) := by decide +kernel
theorem d_Mi_reckon_35 : decode c_Mi_reckon 35 = .ok (.iload 4, 2) := by decide +kernel
theorem d_Mi_reckon_37 : decode c_Mi_reckon 37 = .ok (.aload_n 1, 1) := by decide +kernel
theorem d_Mi_reckon_38 : decode c_Mi_reckon 38 = .ok (.getfield 46, 3) := by decide +kernel
theorem d_Mi_reckon_41 : decode c_Mi_reckon 41 = .ok (.if_icmp .ge 32, 3) := by decide +kernel
theorem d_Mi_reckon_44 : decode c_Mi_reckon 44 = .ok (.iload 4, 2) := by decide +kernel
theorem d_Mi_reckon_46 : decode c_Mi_reckon 46 = .ok (.iload_n 2, 1) := by decide +kernel
theorem d_Mi_reckon_47 : decode c_Mi_reckon 47 = .ok (.if_icmp .eq 20, 3) := by decide +kernel
theorem d_Mi_reckon_50 : decode c_Mi_reckon 50 = .ok (.aload_n 0, 1) := by decide +kernel
theorem d_Mi_reckon_51 : decode c_Mi_reckon 51 = .ok (.aload_n 1, 1) := by decide +kernel
theorem d_Mi_reckon_52 : decode c_Mi_reckon 52 = .ok (.iload 4, 2) := by decide +kernel
theorem d_Mi_reckon_54 : decode c_Mi_reckon 54 = .ok (.invokevirtual 49, 3) := by decide +kernel
theorem d_Mi_reckon_57 : decode c_Mi_reckon 57 = .ok (.iload 4, 2) := by decide +kernel
theorem d_Mi_reckon_59 : decode c_Mi_reckon 59 = .ok (.iload_n 3, 1) := by decide +kernel
theorem d_Mi_reckon_60 : decode c_Mi_reckon 60 = .ok (.invokevirtual 53, 3) := by decide +kernel
theorem d_Mi_reckon_63 : decode c_Mi_reckon 63 = .ok (.aload_n 0, 1) := by decide +kernel
theorem d_Mi_reckon_64 : decode c_Mi_reckon 64 = .ok (.invokevirtual 57, 3) := by decide +kernel
theorem d_Mi_reckon_67 : decode c_Mi_reckon 67 = .ok (.iinc 4 1, 3) := by decide +kernel
theorem d_Mi_reckon_70 : decode c_Mi_reckon 70 = .ok (.goto (-35), 3) := by decide +kernel
theorem d_Mi_reckon_73 : decode c_Mi_reckon 73 = .ok (.return_, 1) := by decide +kernel
theorem d_Mi_leastKey_0 : decode c_Mi_leastKey 0 = .ok (.aload_n 0, 1) := by decide +kernel
theorem d_Mi_leastKey_1 : decode c_Mi_leastKey 1 = .ok (.getfield 18, 3) := by decide +kernel
theorem d_Mi_leastKey_4 : decode c_Mi_leastKey 4 = .ok (.aload_n 0, 1) := by decide +kernel
theorem d_Mi_leastKey_5 : decode c_Mi_leastKey 5 = .ok (.invokevirtual 88, 3) := by decide +kernel
theorem d_Mi_leastKey_8 : decode c_Mi_leastKey 8 = .ok (.iaload, 1) := by decide +kernel
theorem d_Mi_leastKey_9 : decode c_Mi_leastKey 9 = .ok (.ireturn, 1) := by decide +kernel
theorem d_Mi_ropeThen_0 : decode c_Mi_ropeThen 0 = .ok (.aload_n 0, 1) := by decide +kernel
theorem d_Mi_ropeThen_1 : decode c_Mi_ropeThen 1 = .ok (.invokevirtual 95, 3) := by decide +kernel
theorem d_Mi_ropeThen_4 : decode c_Mi_ropeThen 4 = .ok (.ldc 45, 2) := by decide +kernel
theorem d_Mi_ropeThen_6 : decode c_Mi_ropeThen 6 = .ok (.if_icmp .ge 14, 3) := by decide +kernel
theorem d_Mi_ropeThen_9 : decode c_Mi_ropeThen 9 = .ok (.iload_n 1, 1) := by decide +kernel
theorem d_Mi_ropeThen_10 : decode c_Mi_ropeThen 10 = .ok (.aload_n 0, 1) := by decide +kernel
theorem d_Mi_ropeThen_11 : decode c_Mi_ropeThen 11 = .ok (.getfield 31, 3) := by decide +kernel
theorem d_Mi_ropeThen_14 : decode c_Mi_ropeThen 14 = .ok (.invokestatic 35, 3) := by decide +kernel
theorem d_Mi_ropeThen_17 : decode c_Mi_ropeThen 17 = .ok (.ifCond .ne 5, 3) := by decide +kernel
theorem d_Mi_ropeThen_20 : decode c_Mi_ropeThen 20 = .ok (.iconst (-1), 1) := by decide +kernel
theorem d_Mi_ropeThen_21 : decode c_Mi_ropeThen 21 = .ok (.ireturn, 1) := by decide +kernel
theorem d_Mi_ropeThen_22 : decode c_Mi_ropeThen 22 = .ok (.aload_n 0, 1) := by decide +kernel
theorem d_Mi_ropeThen_23 : decode c_Mi_ropeThen 23 = .ok (.invokevirtual 95, 3) := by decide +kernel
theorem d_Mi_ropeThen_26 : decode c_Mi_ropeThen 26 = .ok (.iload_n 1, 1) := by decide +kernel
theorem d_Mi_ropeThen_27 : decode c_Mi_ropeThen 27 = .ok (.invokestatic 82, 3) := by decide +kernel
theorem d_Mi_ropeThen_30 : decode c_Mi_ropeThen 30 = .ok (.ishr, 1) := by decide +kernel
theorem d_Mi_ropeThen_31 : decode c_Mi_ropeThen 31 = .ok (.bipush 7, 2) := by decide +kernel
theorem d_Mi_ropeThen_33 : decode c_Mi_ropeThen 33 = .ok (.iand, 1) := by decide +kernel
theorem d_Mi_ropeThen_34 : decode c_Mi_ropeThen 34 = .ok (.ireturn, 1) := by decide +kernel
theorem d_Mi_timeThen_0 : decode c_Mi_timeThen 0 = .ok (.aload_n 0, 1) := by decide +kernel
theorem d_Mi_timeThen_1 : decode c_Mi_timeThen 1 = .ok (.invokevirtual 95, 3) := by decide +kernel
theorem d_Mi_timeThen_4 : decode c_Mi_timeThen 4 = .ok (.ldc 45, 2) := by decide +kernel
theorem d_Mi_timeThen_6 : decode c_Mi_timeThen 6 = .ok (.if_icmp .lt 5, 3) := by decide +kernel
theorem d_Mi_timeThen_9 : decode c_Mi_timeThen 9 = .ok (.iconst (-1), 1) := by decide +kernel
theorem d_Mi_timeThen_10 : decode c_Mi_timeThen 10 = .ok (.ireturn, 1) := by decide +kernel
theorem d_Mi_timeThen_11 : decode c_Mi_timeThen 11 = .ok (.iconst 0, 1) := by decide +kernel
theorem d_Mi_timeThen_12 : decode c_Mi_timeThen 12 = .ok (.istore_n 2, 1) := by decide +kernel
theorem d_Mi_timeThen_13 : decode c_Mi_timeThen 13 = .ok (.iconst 0, 1) := by decide +kernel
theorem d_Mi_timeThen_14 : decode c_Mi_timeThen 14 = .ok (.istore_n 3, 1) := by decide +kernel
theorem d_Mi_timeThen_15 : decode c_Mi_timeThen 15 = .ok (.iload_n 3, 1) := by decide +kernel
theorem d_Mi_timeThen_16 : decode c_Mi_timeThen 16 = .ok (.aload_n 1, 1) := by decide +kernel
theorem d_Mi_timeThen_17 : decode c_Mi_timeThen 17 = .ok (.getfield 46, 3) := by decide +kernel
theorem d_Mi_timeThen_20 : decode c_Mi_timeThen 20 = .ok (.if_icmp .ge 58, 3) := by decide +kernel
theorem d_Mi_timeThen_23 : decode c_Mi_timeThen 23 = .ok (.iconst 0, 1) := by decide +kernel
theorem d_Mi_timeThen_24 : decode c_Mi_timeThen 24 = .ok (.istore 4, 2) := by decide +kernel
theorem d_Mi_timeThen_26 : decode c_Mi_timeThen 26 = .ok (.iconst 0, 1) := by decide +kernel
theorem d_Mi_timeThen_27 : decode c_Mi_timeThen 27 = .ok (.istore 5, 2) := by decide +kernel
theorem d_Mi_timeThen_29 : decode c_Mi_timeThen 29 = .ok (.iload 5, 2) := by decide +kernel
theorem d_Mi_timeThen_31 : decode c_Mi_timeThen 31 = .ok (.aload_n 0, 1) := by decide +kernel
theorem d_Mi_timeThen_32 : decode c_Mi_timeThen 32 = .ok (.getfield 31, 3) := by decide +kernel
theorem d_Mi_timeThen_35 : decode c_Mi_timeThen 35 = .ok (.if_icmp .ge 22, 3) := by decide +kernel
theorem d_Mi_timeThen_38 : decode c_Mi_timeThen 38 = .ok (.aload_n 0, 1) := by decide +kernel
theorem d_Mi_timeThen_39 : decode c_Mi_timeThen 39 = .ok (.iload 5, 2) := by decide +kernel
theorem d_Mi_timeThen_41 : decode c_Mi_timeThen 41 = .ok (.invokevirtual 101, 3) := by decide +kernel
theorem d_Mi_timeThen_44 : decode c_Mi_timeThen 44 = .ok (.iload_n 3, 1) := by decide +kernel
theorem d_Mi_timeThen_45 : decode c_Mi_timeThen 45 = .ok (.if_icmp .ne 6, 3) := by decide +kernel
theorem d_Mi_timeThen_48 : decode c_Mi_timeThen 48 = .ok (.iinc 4 1, 3) := by decide +kernel
theorem d_Mi_timeThen_51 : decode c_Mi_timeThen 51 = .ok (.iinc 5 1, 3) := by decide +kernel
theorem d_Mi_timeThen_54 : decode c_Mi_timeThen 54 = .ok (.goto (-25), 3) := by decide +kernel
theorem d_Mi_timeThen_57 : decode c_Mi_timeThen 57 = .ok (.iload_n 2, 1) := by decide +kernel
theorem d_Mi_timeThen_58 : decode c_Mi_timeThen 58 = .ok (.aload_n 1, 1) := by decide +kernel
theorem d_Mi_timeThen_59 : decode c_Mi_timeThen 59 = .ok (.iload_n 3, 1) := by decide +kernel
theorem d_Mi_timeThen_60 : decode c_Mi_timeThen 60 = .ok (.invokevirtual 49, 3) := by decide +kernel
theorem d_Mi_timeThen_63 : decode c_Mi_timeThen 63 = .ok (.iload 4, 2) := by decide +kernel
theorem d_Mi_timeThen_65 : decode c_Mi_timeThen 65 = .ok (.invokestatic 70, 3) := by decide +kernel
theorem d_Mi_timeThen_68 : decode c_Mi_timeThen 68 = .ok (.invokestatic 104, 3) := by decide +kernel
theorem d_Mi_timeThen_71 : decode c_Mi_timeThen 71 = .ok (.istore_n 2, 1) := by decide +kernel
theorem d_Mi_timeThen_72 : decode c_Mi_timeThen 72 = .ok (.iinc 3 1, 3) := by decide +kernel
theorem d_Mi_timeThen_75 : decode c_Mi_timeThen 75 = .ok (.goto (-60), 3) := by decide +kernel
theorem d_Mi_timeThen_78 : decode c_Mi_timeThen 78 = .ok (.iload_n 2, 1) := by decide +kernel
theorem d_Mi_timeThen_79 : decode c_Mi_timeThen 79 = .ok (.ireturn, 1) := by decide +kernel
theorem d_Mi_costOf_0 : decode c_Mi_costOf 0 = .ok (.iload_n 0, 1) := by decide +kernel
theorem d_Mi_costOf_1 : decode c_Mi_costOf 1 = .ok (.ldc 45, 2) := by decide +kernel
theorem d_Mi_costOf_3 : decode c_Mi_costOf 3 = .ok (.if_icmp .ge 10, 3) := by decide +kernel
theorem d_Mi_costOf_6 : decode c_Mi_costOf 6 = .ok (.iload_n 0, 1) := by decide +kernel
theorem d_Mi_costOf_7 : decode c_Mi_costOf 7 = .ok (.bipush 15, 2) := by decide +kernel
theorem d_Mi_costOf_9 : decode c_Mi_costOf 9 = .ok (.ishr, 1) := by decide +kernel
theorem d_Mi_costOf_10 : decode c_Mi_costOf 10 = .ok (.goto 4, 3) := by decide +kernel
theorem d_Mi_costOf_13 : decode c_Mi_costOf 13 = .ok (.iconst (-1), 1) := by decide +kernel
theorem d_Mi_costOf_14 : decode c_Mi_costOf 14 = .ok (.ireturn, 1) := by decide +kernel
theorem d_Mi_leastCost_0 : decode c_Mi_leastCost 0 = .ok (.aload_n 0, 1) := by decide +kernel
theorem d_Mi_leastCost_1 : decode c_Mi_leastCost 1 = .ok (.invokevirtual 95, 3) := by decide +kernel
theorem d_Mi_leastCost_4 : decode c_Mi_leastCost 4 = .ok (.invokestatic 98, 3) := by decide +kernel
theorem d_Mi_leastCost_7 : decode c_Mi_leastCost 7 = .ok (.ireturn, 1) := by decide +kernel
theorem d_GR_sentAsReckoned_0 : decode c_GR_sentAsReckoned 0 = .ok (.iload_n 1, 1) := by decide +kernel
theorem d_GR_sentAsReckoned_1 : decode c_GR_sentAsReckoned 1 = .ok (.iconst (-1), 1) := by decide +kernel
theorem d_GR_sentAsReckoned_2 : decode c_GR_sentAsReckoned 2 = .ok (.if_icmp .ne 11, 3) := by decide +kernel
theorem d_GR_sentAsReckoned_5 : decode c_GR_sentAsReckoned 5 = .ok (.aload_n 0, 1) := by decide +kernel
theorem d_GR_sentAsReckoned_6 : decode c_GR_sentAsReckoned 6 = .ok (.getfield 49, 3) := by decide +kernel
theorem d_GR_sentAsReckoned_9 : decode c_GR_sentAsReckoned 9 = .ok (.invokevirtual 242, 3) := by decide +kernel
theorem d_GR_sentAsReckoned_12 : decode c_GR_sentAsReckoned 12 = .ok (.ireturn, 1) := by decide +kernel
theorem d_GR_sentAsReckoned_13 : decode c_GR_sentAsReckoned 13 = .ok (.iload_n 1, 1) := by decide +kernel
theorem d_GR_sentAsReckoned_14 : decode c_GR_sentAsReckoned 14 = .ok (.bipush (-2), 2) := by decide +kernel
theorem d_GR_sentAsReckoned_16 : decode c_GR_sentAsReckoned 16 = .ok (.if_icmp .ne 17, 3) := by decide +kernel
theorem d_GR_sentAsReckoned_19 : decode c_GR_sentAsReckoned 19 = .ok (.aload_n 0, 1) := by decide +kernel
theorem d_GR_sentAsReckoned_20 : decode c_GR_sentAsReckoned 20 = .ok (.getfield 49, 3) := by decide +kernel
theorem d_GR_sentAsReckoned_23 : decode c_GR_sentAsReckoned 23 = .ok (.aload_n 0, 1) := by decide +kernel
theorem d_GR_sentAsReckoned_24 : decode c_GR_sentAsReckoned 24 = .ok (.getfield 24, 3) := by decide +kernel
theorem d_GR_sentAsReckoned_27 : decode c_GR_sentAsReckoned 27 = .ok (.invokevirtual 361, 3) := by decide +kernel
theorem d_GR_sentAsReckoned_30 : decode c_GR_sentAsReckoned 30 = .ok (.goto 11, 3) := by decide +kernel
theorem d_GR_sentAsReckoned_33 : decode c_GR_sentAsReckoned 33 = .ok (.aload_n 0, 1) := by decide +kernel
theorem d_GR_sentAsReckoned_34 : decode c_GR_sentAsReckoned 34 = .ok (.getfield 49, 3) := by decide +kernel
theorem d_GR_sentAsReckoned_37 : decode c_GR_sentAsReckoned 37 = .ok (.iload_n 1, 1) := by decide +kernel
theorem d_GR_sentAsReckoned_38 : decode c_GR_sentAsReckoned 38 = .ok (.invokevirtual 365, 3) := by decide +kernel
theorem d_GR_sentAsReckoned_41 : decode c_GR_sentAsReckoned 41 = .ok (.ireturn, 1) := by decide +kernel
def f_JI_bitCount (v0 : Int32) : Int32 :=
  (((((((v0 - ((us v0 1) &&& 1431655765)) &&& 858993459) + ((us (v0 - ((us v0 1) &&& 1431655765)) 2) &&& 858993459)) + (us (((v0 - ((us v0 1) &&& 1431655765)) &&& 858993459) + ((us (v0 - ((us v0 1) &&& 1431655765)) 2) &&& 858993459)) 4)) &&& 252645135) + (us (((((v0 - ((us v0 1) &&& 1431655765)) &&& 858993459) + ((us (v0 - ((us v0 1) &&& 1431655765)) 2) &&& 858993459)) + (us (((v0 - ((us v0 1) &&& 1431655765)) &&& 858993459) + ((us (v0 - ((us v0 1) &&& 1431655765)) 2) &&& 858993459)) 4)) &&& 252645135) 8)) + (us ((((((v0 - ((us v0 1) &&& 1431655765)) &&& 858993459) + ((us (v0 - ((us v0 1) &&& 1431655765)) 2) &&& 858993459)) + (us (((v0 - ((us v0 1) &&& 1431655765)) &&& 858993459) + ((us (v0 - ((us v0 1) &&& 1431655765)) 2) &&& 858993459)) 4)) &&& 252645135) + (us (((((v0 - ((us v0 1) &&& 1431655765)) &&& 858993459) + ((us (v0 - ((us v0 1) &&& 1431655765)) 2) &&& 858993459)) + (us (((v0 - ((us v0 1) &&& 1431655765)) &&& 858993459) + ((us (v0 - ((us v0 1) &&& 1431655765)) 2) &&& 858993459)) 4)) &&& 252645135) 8)) 16)) &&& 63
set_option maxHeartbeats 4000000 in
theorem j_JI_bitCount {V : Vx} {X : Xx} {r : Int32} (σ : Sg) (v0 : Int32) (hf : f_JI_bitCount v0 = r) : J V X (k2_rm 0 0) c_JI_bitCount R_JI 1 (some .int) (Qr V X (some (.int r)) σ) σ 0 [(0, .int v0)] [] := by
  unfold f_JI_bitCount at hf
  refine J_iload_n (pc' := 1) d_JI_bitCount_0 rfl 0 rfl ?_
  refine J_iload_n (pc' := 2) d_JI_bitCount_1 rfl 0 rfl ?_
  refine J_iconst (pc' := 3) (v := 1) d_JI_bitCount_2 rfl ic_1 ?_
  refine J_iushr (pc' := 4) d_JI_bitCount_3 rfl ?_
  refine J_ldcw (pc' := 7) (v := 1431655765) d_JI_bitCount_4 rfl cw_JI_265 ?_
  refine J_iand (pc' := 8) d_JI_bitCount_7 rfl ?_
  refine J_isub (pc' := 9) d_JI_bitCount_8 rfl ?_
  refine J_istore_n (pc' := 10) (lv' := [(0, .int (v0 - ((us v0 1) &&& 1431655765)))]) d_JI_bitCount_9 rfl rfl (by decide) rfl ?_
  refine J_iload_n (pc' := 11) d_JI_bitCount_10 rfl 0 rfl ?_
  refine J_ldcw (pc' := 14) (v := 858993459) d_JI_bitCount_11 rfl cw_JI_266 ?_
  refine J_iand (pc' := 15) d_JI_bitCount_14 rfl ?_
  refine J_iload_n (pc' := 16) d_JI_bitCount_15 rfl 0 rfl ?_
  refine J_iconst (pc' := 17) (v := 2) d_JI_bitCount_16 rfl ic_2 ?_
  refine J_iushr (pc' := 18) d_JI_bitCount_17 rfl ?_
  refine J_ldcw (pc' := 21) (v := 858993459) d_JI_bitCount_18 rfl cw_JI_266 ?_
  refine J_iand (pc' := 22) d_JI_bitCount_21 rfl ?_
  refine J_iadd (pc' := 23) d_JI_bitCount_22 rfl ?_
  refine J_istore_n (pc' := 24) (lv' := [(0, .int (((v0 - ((us v0 1) &&& 1431655765)) &&& 858993459) + ((us (v0 - ((us v0 1) &&& 1431655765)) 2) &&& 858993459)))]) d_JI_bitCount_23 rfl rfl (by decide) rfl ?_
  refine J_iload_n (pc' := 25) d_JI_bitCount_24 rfl 0 rfl ?_
  refine J_iload_n (pc' := 26) d_JI_bitCount_25 rfl 0 rfl ?_
  refine J_iconst (pc' := 27) (v := 4) d_JI_bitCount_26 rfl ic_4 ?_
  refine J_iushr (pc' := 28) d_JI_bitCount_27 rfl ?_
  refine J_iadd (pc' := 29) d_JI_bitCount_28 rfl ?_
  refine J_ldcw (pc' := 32) (v := 252645135) d_JI_bitCount_29 rfl cw_JI_267 ?_
  refine J_iand (pc' := 33) d_JI_bitCount_32 rfl ?_
  refine J_istore_n (pc' := 34) (lv' := [(0, .int (((((v0 - ((us v0 1) &&& 1431655765)) &&& 858993459) + ((us (v0 - ((us v0 1) &&& 1431655765)) 2) &&& 858993459)) + (us (((v0 - ((us v0 1) &&& 1431655765)) &&& 858993459) + ((us (v0 - ((us v0 1) &&& 1431655765)) 2) &&& 858993459)) 4)) &&& 252645135))]) d_JI_bitCount_33 rfl rfl (by decide) rfl ?_
  refine J_iload_n (pc' := 35) d_JI_bitCount_34 rfl 0 rfl ?_
  refine J_iload_n (pc' := 36) d_JI_bitCount_35 rfl 0 rfl ?_
  refine J_bipush (pc' := 38) (v := 8) d_JI_bitCount_36 rfl bc_8 ?_
  refine J_iushr (pc' := 39) d_JI_bitCount_38 rfl ?_
  refine J_iadd (pc' := 40) d_JI_bitCount_39 rfl ?_
  refine J_istore_n (pc' := 41) (lv' := [(0, .int ((((((v0 - ((us v0 1) &&& 1431655765)) &&& 858993459) + ((us (v0 - ((us v0 1) &&& 1431655765)) 2) &&& 858993459)) + (us (((v0 - ((us v0 1) &&& 1431655765)) &&& 858993459) + ((us (v0 - ((us v0 1) &&& 1431655765)) 2) &&& 858993459)) 4)) &&& 252645135) + (us (((((v0 - ((us v0 1) &&& 1431655765)) &&& 858993459) + ((us (v0 - ((us v0 1) &&& 1431655765)) 2) &&& 858993459)) + (us (((v0 - ((us v0 1) &&& 1431655765)) &&& 858993459) + ((us (v0 - ((us v0 1) &&& 1431655765)) 2) &&& 858993459)) 4)) &&& 252645135) 8)))]) d_JI_bitCount_40 rfl rfl (by decide) rfl ?_
  refine J_iload_n (pc' := 42) d_JI_bitCount_41 rfl 0 rfl ?_
  refine J_iload_n (pc' := 43) d_JI_bitCount_42 rfl 0 rfl ?_
  refine J_bipush (pc' := 45) (v := 16) d_JI_bitCount_43 rfl bc_16 ?_
  refine J_iushr (pc' := 46) d_JI_bitCount_45 rfl ?_
  refine J_iadd (pc' := 47) d_JI_bitCount_46 rfl ?_
  refine J_istore_n (pc' := 48) (lv' := [(0, .int (((((((v0 - ((us v0 1) &&& 1431655765)) &&& 858993459) + ((us (v0 - ((us v0 1) &&& 1431655765)) 2) &&& 858993459)) + (us (((v0 - ((us v0 1) &&& 1431655765)) &&& 858993459) + ((us (v0 - ((us v0 1) &&& 1431655765)) 2) &&& 858993459)) 4)) &&& 252645135) + (us (((((v0 - ((us v0 1) &&& 1431655765)) &&& 858993459) + ((us (v0 - ((us v0 1) &&& 1431655765)) 2) &&& 858993459)) + (us (((v0 - ((us v0 1) &&& 1431655765)) &&& 858993459) + ((us (v0 - ((us v0 1) &&& 1431655765)) 2) &&& 858993459)) 4)) &&& 252645135) 8)) + (us ((((((v0 - ((us v0 1) &&& 1431655765)) &&& 858993459) + ((us (v0 - ((us v0 1) &&& 1431655765)) 2) &&& 858993459)) + (us (((v0 - ((us v0 1) &&& 1431655765)) &&& 858993459) + ((us (v0 - ((us v0 1) &&& 1431655765)) 2) &&& 858993459)) 4)) &&& 252645135) + (us (((((v0 - ((us v0 1) &&& 1431655765)) &&& 858993459) + ((us (v0 - ((us v0 1) &&& 1431655765)) 2) &&& 858993459)) + (us (((v0 - ((us v0 1) &&& 1431655765)) &&& 858993459) + ((us (v0 - ((us v0 1) &&& 1431655765)) 2) &&& 858993459)) 4)) &&& 252645135) 8)) 16)))]) d_JI_bitCount_47 rfl rfl (by decide) rfl ?_
  refine J_iload_n (pc' := 49) d_JI_bitCount_48 rfl 0 rfl ?_
  refine J_bipush (pc' := 51) (v := 63) d_JI_bitCount_49 rfl bc_63 ?_
  refine J_iand (pc' := 52) d_JI_bitCount_51 rfl ?_
  subst hf
  exact J_iret d_JI_bitCount_52
theorem ct_JI_bitCount (V : Vx) (l : Launch) (σ : Sg) (v0 : Int32) : Ct V l y_JI_bitCount c_JI_bitCount 1 (some .int) (k2_rm 0 0) [.int v0] σ (some (.int (f_JI_bitCount v0))) σ := Ct.ofJ (by decide +kernel) (Nat.le_of_ble_eq_true rfl) fun X _ => j_JI_bitCount _ v0 rfl
def f_Mi_timeOf (σ : Sg) (v0 : Nat) (v1 : Int32) : Int32 :=
  if 1 ≤ v1 then (v1 * (f_Ro_minutes σ v0 0)) + ((v1 - 1) * (f_Ro_minutes σ v0 1)) else 0
set_option maxHeartbeats 4000000 in
theorem j_Mi_timeOf {V : Vx} {X : Xx} {r : Int32} (σ : Sg) (v0 : Nat) (v1 : Int32) (iv0 : is_Ro v0) (hf : f_Mi_timeOf σ v0 v1 = r) : J V X (k2_rm 1 21) c_Mi_timeOf R_Mi 2 (some .int) (Qr V X (some (.int r)) σ) σ 0 [(0, rf V v0), (1, .int v1)] [] := by
  unfold f_Mi_timeOf at hf
  refine J_iload_n (pc' := 1) d_Mi_timeOf_0 rfl 1 rfl ?_
  refine J_iconst (pc' := 2) (v := 1) d_Mi_timeOf_1 rfl ic_1 ?_
  refine J_icmp_ge (pc' := 5) (tgt := 9) d_Mi_timeOf_2 rfl (by decide) (fun hc1 => ?_) (fun hc1 => ?_)
  · have hf := brT hc1 hf
    refine J_iload_n (pc' := 10) d_Mi_timeOf_9 rfl 1 rfl ?_
    refine J_aload_n (pc' := 11) d_Mi_timeOf_10 rfl 0 rfl ?_
    refine J_iconst (pc' := 12) (v := 0) d_Mi_timeOf_11 rfl ic_0 ?_
    refine J_V (pc' := 15) (as := [.int 0]) (rest := [.int v1]) (st' := [.int (f_Ro_minutes σ v0 0), .int v1]) d_Mi_timeOf_12 rfl (sh_Ro iv0) rfl mv_Mi_85 (ct_Ro_minutes V _ σ v0 0 iv0) rfl rfl ⟨Nat.le_of_ble_eq_true rfl, Nat.le_of_ble_eq_true rfl⟩ ⟨rfl, rfl⟩ (Nat.le_of_ble_eq_true rfl) rfl ?_
    refine J_imul (pc' := 16) d_Mi_timeOf_15 rfl ?_
    refine J_iload_n (pc' := 17) d_Mi_timeOf_16 rfl 1 rfl ?_
    refine J_iconst (pc' := 18) (v := 1) d_Mi_timeOf_17 rfl ic_1 ?_
    refine J_isub (pc' := 19) d_Mi_timeOf_18 rfl ?_
    refine J_aload_n (pc' := 20) d_Mi_timeOf_19 rfl 0 rfl ?_
    refine J_iconst (pc' := 21) (v := 1) d_Mi_timeOf_20 rfl ic_1 ?_
    refine J_V (pc' := 24) (as := [.int 1]) (rest := [.int (v1 - 1), .int (v1 * (f_Ro_minutes σ v0 0))]) (st' := [.int (f_Ro_minutes σ v0 1), .int (v1 - 1), .int (v1 * (f_Ro_minutes σ v0 0))]) d_Mi_timeOf_21 rfl (sh_Ro iv0) rfl mv_Mi_85 (ct_Ro_minutes V _ σ v0 1 iv0) rfl rfl ⟨Nat.le_of_ble_eq_true rfl, Nat.le_of_ble_eq_true rfl⟩ ⟨rfl, rfl⟩ (Nat.le_of_ble_eq_true rfl) rfl ?_
    refine J_imul (pc' := 25) d_Mi_timeOf_24 rfl ?_
    refine J_iadd (pc' := 26) d_Mi_timeOf_25 rfl ?_
    subst hf
    exact J_iret d_Mi_timeOf_26
  · have hf := brF hc1 hf
    refine J_iconst (pc' := 6) (v := 0) d_Mi_timeOf_5 rfl ic_0 ?_
    refine J_goto (tgt := 26) d_Mi_timeOf_6 (by decide) ?_
    subst hf
    exact J_iret d_Mi_timeOf_26
theorem ct_Mi_timeOf (V : Vx) (l : Launch) (σ : Sg) (v0 : Nat) (v1 : Int32) (iv0 : is_Ro v0) : Ct V l y_Mi_timeOf c_Mi_timeOf 2 (some .int) (k2_rm 1 21) [rf V v0, .int v1] σ (some (.int (f_Mi_timeOf σ v0 v1))) σ := Ct.ofJ (by decide +kernel) (Nat.le_of_ble_eq_true rfl) fun X _ => j_Mi_timeOf _ v0 v1 iv0 rfl
def f_Mi_reckonAlone_105 (k10 : Sg → Nat → Int32 → Int32 → Int32 → Option Sg) (k42 : Sg → Nat → Int32 → Int32 → Int32 → Int32 → Int32 → Int32 → Option Sg) (σ : Sg) (v1 : Nat) (v2 : Int32) (v3 : Int32) (v4 : Int32) (v5 : Int32) (v6 : Int32) (v7 : Int32) (s0 : Int32) (s1 : Int32) : Option Sg :=
  gd (vin s1 32) (
    k42 (pI σ 47 s1.toNatClampNeg s0) v1 v2 v3 v4 v5 v6 (v7 + 1))
set_option maxHeartbeats 4000000 in
theorem j_Mi_reckonAlone_105 {V : Vx} {X : Xx} {σ' : Sg} {k10 : Sg → Nat → Int32 → Int32 → Int32 → Option Sg} {k42 : Sg → Nat → Int32 → Int32 → Int32 → Int32 → Int32 → Int32 → Option Sg} (hk10 : ∀ (σ : Sg) (v1 : Nat) (v2 : Int32) (v3 : Int32) (v4 : Int32) (iv1 : is_Ro v1), k10 σ v1 v2 v3 v4 = some σ' → J V X (k2_rm 2 45) c_Mi_reckonAlone R_Mi 9 none (Qr V X none σ') σ 10 [(0, rf V 43), (1, rf V v1), (2, .int v2), (3, .int v3), (4, .int v4)] []) (hk42 : ∀ (σ : Sg) (v1 : Nat) (v2 : Int32) (v3 : Int32) (v4 : Int32) (v5 : Int32) (v6 : Int32) (v7 : Int32) (iv1 : is_Ro v1), k42 σ v1 v2 v3 v4 v5 v6 v7 = some σ' → J V X (k2_rm 2 45) c_Mi_reckonAlone R_Mi 9 none (Qr V X none σ') σ 42 [(0, rf V 43), (1, rf V v1), (2, .int v2), (3, .int v3), (4, .int v4), (5, .int v5), (6, .int v6), (7, .int v7)] []) (σ : Sg) (v1 : Nat) (v2 : Int32) (v3 : Int32) (v4 : Int32) (v5 : Int32) (v6 : Int32) (v7 : Int32) (s0 : Int32) (s1 : Int32) (iv1 : is_Ro v1) (hf : f_Mi_reckonAlone_105 k10 k42 σ v1 v2 v3 v4 v5 v6 v7 s0 s1 = some σ') : J V X (k2_rm 2 45) c_Mi_reckonAlone R_Mi 9 none (Qr V X none σ') σ 105 [(0, rf V 43), (1, rf V v1), (2, .int v2), (3, .int v3), (4, .int v4), (5, .int v5), (6, .int v6), (7, .int v7)] [.int s0, .int s1, rf V 47] := by
  unfold f_Mi_reckonAlone_105 at hf
  obtain ⟨hg5, hf⟩ := gdE hf
  refine J_ias (pc' := 106) d_Mi_reckonAlone_105 rfl sh_47 (vinP hg5) ?_
  refine J_iinc (pc' := 109) (j := 7) (v := 1) (lv' := [(7, .int (v7 + 1)), (0, rf V 43), (1, rf V v1), (2, .int v2), (3, .int v3), (4, .int v4), (5, .int v5), (6, .int v6)]) d_Mi_reckonAlone_106 rfl rfl ic_1 (by decide) rfl ?_
  refine J_goto (tgt := 42) d_Mi_reckonAlone_109 (by decide) ?_
  refine J_pick [1, 2, 3, 4, 5, 6, 7, 0] rfl ?_
  exact hk42 _ _ _ _ _ _ _ _ iv1 hf
def f_Mi_reckonAlone_69 (k10 : Sg → Nat → Int32 → Int32 → Int32 → Option Sg) (k42 : Sg → Nat → Int32 → Int32 → Int32 → Int32 → Int32 → Int32 → Option Sg) (σ : Sg) (v1 : Nat) (v2 : Int32) (v3 : Int32) (v4 : Int32) (v5 : Int32) (v6 : Int32) (v7 : Int32) (s0 : Int32) : Option Sg :=
  if s0 = 0 then
    f_Mi_reckonAlone_105 k10 k42 σ v1 v2 v3 v4 v5 v6 v7 268435456 (v5 + v7)
  else
    gd (vin v7 32) (
      f_Mi_reckonAlone_105 k10 k42 σ v1 v2 v3 v4 v5 v6 v7 (f_JM_min 268435456 ((σ.1 47 v7.toNatClampNeg) + v6)) (v5 + v7))
set_option maxHeartbeats 4000000 in
theorem j_Mi_reckonAlone_69 {V : Vx} {X : Xx} {σ' : Sg} {k10 : Sg → Nat → Int32 → Int32 → Int32 → Option Sg} {k42 : Sg → Nat → Int32 → Int32 → Int32 → Int32 → Int32 → Int32 → Option Sg} (hk10 : ∀ (σ : Sg) (v1 : Nat) (v2 : Int32) (v3 : Int32) (v4 : Int32) (iv1 : is_Ro v1), k10 σ v1 v2 v3 v4 = some σ' → J V X (k2_rm 2 45) c_Mi_reckonAlone R_Mi 9 none (Qr V X none σ') σ 10 [(0, rf V 43), (1, rf V v1), (2, .int v2), (3, .int v3), (4, .int v4)] []) (hk42 : ∀ (σ : Sg) (v1 : Nat) (v2 : Int32) (v3 : Int32) (v4 : Int32) (v5 : Int32) (v6 : Int32) (v7 : Int32) (iv1 : is_Ro v1), k42 σ v1 v2 v3 v4 v5 v6 v7 = some σ' → J V X (k2_rm 2 45) c_Mi_reckonAlone R_Mi 9 none (Qr V X none σ') σ 42 [(0, rf V 43), (1, rf V v1), (2, .int v2), (3, .int v3), (4, .int v4), (5, .int v5), (6, .int v6), (7, .int v7)] []) (σ : Sg) (v1 : Nat) (v2 : Int32) (v3 : Int32) (v4 : Int32) (v5 : Int32) (v6 : Int32) (v7 : Int32) (s0 : Int32) (iv1 : is_Ro v1) (hf : f_Mi_reckonAlone_69 k10 k42 σ v1 v2 v3 v4 v5 v6 v7 s0 = some σ') : J V X (k2_rm 2 45) c_Mi_reckonAlone R_Mi 9 none (Qr V X none σ') σ 69 [(0, rf V 43), (1, rf V v1), (2, .int v2), (3, .int v3), (4, .int v4), (5, .int v5), (6, .int v6), (7, .int v7)] [.int s0] := by
  unfold f_Mi_reckonAlone_69 at hf
  refine J_istore (pc' := 71) (lv' := [(8, .int s0), (0, rf V 43), (1, rf V v1), (2, .int v2), (3, .int v3), (4, .int v4), (5, .int v5), (6, .int v6), (7, .int v7)]) d_Mi_reckonAlone_69 rfl (by decide) rfl ?_
  refine J_aload_n (pc' := 72) d_Mi_reckonAlone_71 rfl 1 rfl ?_
  refine J_getR (pc' := 75) d_Mi_reckonAlone_72 rfl sh_43 fl_Mi_21 rfl ?_
  refine J_iload (pc' := 77) d_Mi_reckonAlone_75 rfl 6 rfl ?_
  refine J_iload (pc' := 79) d_Mi_reckonAlone_77 rfl 8 rfl ?_
  refine J_iadd (pc' := 80) d_Mi_reckonAlone_79 rfl ?_
  refine J_iload (pc' := 82) d_Mi_reckonAlone_80 rfl 0 rfl ?_
  refine J_if_eq (pc' := 85) (tgt := 103) d_Mi_reckonAlone_82 rfl (by decide) (fun hc4 => ?_) (fun hc4 => ?_)
  · have hf := brT hc4 hf
    refine J_ldc (pc' := 105) (v := 268435456) d_Mi_reckonAlone_103 rfl cw_Mi_45 ?_
    refine J_pick [1, 2, 3, 4, 5, 6, 7, 8] rfl ?_
    exact j_Mi_reckonAlone_105 hk10 hk42 _ _ _ _ _ _ _ _ _ _ iv1 hf
  · have hf := brF hc4 hf
    refine J_ldc (pc' := 87) (v := 268435456) d_Mi_reckonAlone_85 rfl cw_Mi_45 ?_
    refine J_aload_n (pc' := 88) d_Mi_reckonAlone_87 rfl 1 rfl ?_
    refine J_getR (pc' := 91) d_Mi_reckonAlone_88 rfl sh_43 fl_Mi_21 rfl ?_
    refine J_iload (pc' := 93) d_Mi_reckonAlone_91 rfl 8 rfl ?_
    obtain ⟨hg6, hf⟩ := gdE hf
    refine J_ial (pc' := 94) d_Mi_reckonAlone_93 rfl sh_47 (vinP hg6) ?_
    refine J_iload (pc' := 96) d_Mi_reckonAlone_94 rfl 7 rfl ?_
    refine J_iadd (pc' := 97) d_Mi_reckonAlone_96 rfl ?_
    refine J_S (pc' := 100) (as := [.int 268435456, .int ((σ.1 47 v7.toNatClampNeg) + v6)]) (rest := [.int (v5 + v7), rf V 47]) (st' := [.int (f_JM_min 268435456 ((σ.1 47 v7.toNatClampNeg) + v6)), .int (v5 + v7), rf V 47]) d_Mi_reckonAlone_97 rfl ms_Mi_39 (ct_JM_min V _ σ 268435456 ((σ.1 47 v7.toNatClampNeg) + v6)) rfl rfl ⟨Nat.le_of_ble_eq_true rfl, Nat.le_of_ble_eq_true rfl⟩ ⟨rfl, rfl⟩ (Nat.le_of_ble_eq_true rfl) rfl ?_
    refine J_goto (tgt := 105) d_Mi_reckonAlone_100 (by decide) ?_
    refine J_pick [1, 2, 3, 4, 5, 6, 7, 8] rfl ?_
    exact j_Mi_reckonAlone_105 hk10 hk42 _ _ _ _ _ _ _ _ _ _ iv1 hf
def f_Mi_reckonAlone_42 (k10 : Sg → Nat → Int32 → Int32 → Int32 → Option Sg) : Nat → Sg → Nat → Int32 → Int32 → Int32 → Int32 → Int32 → Int32 → Option Sg
  | 0, _, _, _, _, _, _, _, _ => none
  | n + 1, σ, v1, v2, v3, v4, v5, v6, v7 =>
    if v5 ≤ v7 then
      k10 σ v1 v2 v3 (v4 + 1)
    else
      if v3 < (f_Mi_timeOf σ v1 ((f_JI_bitCount v7) + 1)) then
        f_Mi_reckonAlone_69 k10 (f_Mi_reckonAlone_42 k10 n) σ v1 v2 v3 v4 v5 v6 v7 0
      else
        f_Mi_reckonAlone_69 k10 (f_Mi_reckonAlone_42 k10 n) σ v1 v2 v3 v4 v5 v6 v7 1
theorem f_Mi_reckonAlone_42_s (k10 : Sg → Nat → Int32 → Int32 → Int32 → Option Sg) (n : Nat) (σ : Sg) (v1 : Nat) (v2 : Int32) (v3 : Int32) (v4 : Int32) (v5 : Int32) (v6 : Int32) (v7 : Int32) : f_Mi_reckonAlone_42 k10 (n + 1) σ v1 v2 v3 v4 v5 v6 v7 =
    if v5 ≤ v7 then
      k10 σ v1 v2 v3 (v4 + 1)
    else
      if v3 < (f_Mi_timeOf σ v1 ((f_JI_bitCount v7) + 1)) then
        f_Mi_reckonAlone_69 k10 (f_Mi_reckonAlone_42 k10 n) σ v1 v2 v3 v4 v5 v6 v7 0
      else
        f_Mi_reckonAlone_69 k10 (f_Mi_reckonAlone_42 k10 n) σ v1 v2 v3 v4 v5 v6 v7 1 := rfl
set_option maxHeartbeats 4000000 in
theorem j_Mi_reckonAlone_42 {V : Vx} {X : Xx} {σ' : Sg} {k10 : Sg → Nat → Int32 → Int32 → Int32 → Option Sg} (hk10 : ∀ (σ : Sg) (v1 : Nat) (v2 : Int32) (v3 : Int32) (v4 : Int32) (iv1 : is_Ro v1), k10 σ v1 v2 v3 v4 = some σ' → J V X (k2_rm 2 45) c_Mi_reckonAlone R_Mi 9 none (Qr V X none σ') σ 10 [(0, rf V 43), (1, rf V v1), (2, .int v2), (3, .int v3), (4, .int v4)] []) : ∀ (n : Nat) (σ : Sg) (v1 : Nat) (v2 : Int32) (v3 : Int32) (v4 : Int32) (v5 : Int32) (v6 : Int32) (v7 : Int32) (iv1 : is_Ro v1), f_Mi_reckonAlone_42 k10 n σ v1 v2 v3 v4 v5 v6 v7 = some σ' → J V X (k2_rm 2 45) c_Mi_reckonAlone R_Mi 9 none (Qr V X none σ') σ 42 [(0, rf V 43), (1, rf V v1), (2, .int v2), (3, .int v3), (4, .int v4), (5, .int v5), (6, .int v6), (7, .int v7)] [] := by
  intro n
  induction n with
  | zero => intro σ v1 v2 v3 v4 v5 v6 v7 iv1 hf; exact nn hf
  | succ n ih =>
    intro σ v1 v2 v3 v4 v5 v6 v7 iv1 hf
    rw [f_Mi_reckonAlone_42_s] at hf
    refine J_iload (pc' := 44) d_Mi_reckonAlone_42 rfl 7 rfl ?_
    refine J_iload (pc' := 46) d_Mi_reckonAlone_44 rfl 5 rfl ?_
    refine J_icmp_ge (pc' := 49) (tgt := 112) d_Mi_reckonAlone_46 rfl (by decide) (fun hc2 => ?_) (fun hc2 => ?_)
    · have hf := brT hc2 hf
      refine J_iinc (pc' := 115) (j := 4) (v := 1) (lv' := [(4, .int (v4 + 1)), (0, rf V 43), (1, rf V v1), (2, .int v2), (3, .int v3), (5, .int v5), (6, .int v6), (7, .int v7)]) d_Mi_reckonAlone_112 rfl rfl ic_1 (by decide) rfl ?_
      refine J_goto (tgt := 10) d_Mi_reckonAlone_115 (by decide) ?_
      refine J_pick [1, 2, 3, 4, 0] rfl ?_
      exact hk10 _ _ _ _ _ iv1 hf
    · have hf := brF hc2 hf
      refine J_aload_n (pc' := 50) d_Mi_reckonAlone_49 rfl 1 rfl ?_
      refine J_iload (pc' := 52) d_Mi_reckonAlone_50 rfl 7 rfl ?_
      refine J_S (pc' := 55) (as := [.int v7]) (rest := [rf V v1]) (st' := [.int (f_JI_bitCount v7), rf V v1]) d_Mi_reckonAlone_52 rfl ms_Mi_64 (ct_JI_bitCount V _ σ v7) rfl rfl ⟨Nat.le_of_ble_eq_true rfl, Nat.le_of_ble_eq_true rfl⟩ ⟨rfl, rfl⟩ (Nat.le_of_ble_eq_true rfl) rfl ?_
      refine J_iconst (pc' := 56) (v := 1) d_Mi_reckonAlone_55 rfl ic_1 ?_
      refine J_iadd (pc' := 57) d_Mi_reckonAlone_56 rfl ?_
      refine J_S (pc' := 60) (as := [rf V v1, .int ((f_JI_bitCount v7) + 1)]) (rest := []) (st' := [.int (f_Mi_timeOf σ v1 ((f_JI_bitCount v7) + 1))]) d_Mi_reckonAlone_57 rfl ms_Mi_70 (ct_Mi_timeOf V _ σ v1 ((f_JI_bitCount v7) + 1) iv1) rfl rfl ⟨Nat.le_of_ble_eq_true rfl, Nat.le_of_ble_eq_true rfl⟩ ⟨rfl, rfl⟩ (Nat.le_of_ble_eq_true rfl) rfl ?_
      refine J_iload_n (pc' := 61) d_Mi_reckonAlone_60 rfl 3 rfl ?_
      refine J_icmp_gt (pc' := 64) (tgt := 68) d_Mi_reckonAlone_61 rfl (by decide) (fun hc3 => ?_) (fun hc3 => ?_)
      · have hf := brT hc3 hf
        refine J_iconst (pc' := 69) (v := 0) d_Mi_reckonAlone_68 rfl ic_0 ?_
        exact j_Mi_reckonAlone_69 hk10 ih _ _ _ _ _ _ _ _ _ iv1 hf
      · have hf := brF hc3 hf
        refine J_iconst (pc' := 65) (v := 1) d_Mi_reckonAlone_64 rfl ic_1 ?_
        refine J_goto (tgt := 69) d_Mi_reckonAlone_65 (by decide) ?_
        exact j_Mi_reckonAlone_69 hk10 ih _ _ _ _ _ _ _ _ _ iv1 hf
def f_Mi_reckonAlone_10 : Nat → Sg → Nat → Int32 → Int32 → Int32 → Option Sg
  | 0, _, _, _, _, _ => none
  | n + 1, σ, v1, v2, v3, v4 =>
    if (f_JM_min (σ.1 43 5) 5) ≤ v4 then some σ else f_Mi_reckonAlone_42 (f_Mi_reckonAlone_10 n) FU σ v1 v2 v3 v4 (1 <<< (v4 &&& 31)) (f_Mi_keyOf σ v1 v2 v4) 0
theorem f_Mi_reckonAlone_10_s (n : Nat) (σ : Sg) (v1 : Nat) (v2 : Int32) (v3 : Int32) (v4 : Int32) : f_Mi_reckonAlone_10 (n + 1) σ v1 v2 v3 v4 =
    if (f_JM_min (σ.1 43 5) 5) ≤ v4 then some σ else f_Mi_reckonAlone_42 (f_Mi_reckonAlone_10 n) FU σ v1 v2 v3 v4 (1 <<< (v4 &&& 31)) (f_Mi_keyOf σ v1 v2 v4) 0 := rfl
set_option maxHeartbeats 4000000 in
theorem j_Mi_reckonAlone_10 {V : Vx} {X : Xx} {σ' : Sg}  : ∀ (n : Nat) (σ : Sg) (v1 : Nat) (v2 : Int32) (v3 : Int32) (v4 : Int32) (iv1 : is_Ro v1), f_Mi_reckonAlone_10 n σ v1 v2 v3 v4 = some σ' → J V X (k2_rm 2 45) c_Mi_reckonAlone R_Mi 9 none (Qr V X none σ') σ 10 [(0, rf V 43), (1, rf V v1), (2, .int v2), (3, .int v3), (4, .int v4)] [] := by
  intro n
  induction n with
  | zero => intro σ v1 v2 v3 v4 iv1 hf; exact nn hf
  | succ n ih =>
    intro σ v1 v2 v3 v4 iv1 hf
    rw [f_Mi_reckonAlone_10_s] at hf
    refine J_iload (pc' := 12) d_Mi_reckonAlone_10 rfl 4 rfl ?_
    refine J_aload_n (pc' := 13) d_Mi_reckonAlone_12 rfl 0 rfl ?_
    refine J_getI (pc' := 16) d_Mi_reckonAlone_13 rfl sh_43 fl_Mi_31 rfl ?_
    refine J_iconst (pc' := 17) (v := 5) d_Mi_reckonAlone_16 rfl ic_5 ?_
    refine J_S (pc' := 20) (as := [.int (σ.1 43 5), .int 5]) (rest := [.int v4]) (st' := [.int (f_JM_min (σ.1 43 5) 5), .int v4]) d_Mi_reckonAlone_17 rfl ms_Mi_39 (ct_JM_min V _ σ (σ.1 43 5) 5) rfl rfl ⟨Nat.le_of_ble_eq_true rfl, Nat.le_of_ble_eq_true rfl⟩ ⟨rfl, rfl⟩ (Nat.le_of_ble_eq_true rfl) rfl ?_
    refine J_icmp_ge (pc' := 23) (tgt := 118) d_Mi_reckonAlone_20 rfl (by decide) (fun hc1 => ?_) (fun hc1 => ?_)
    · have hf := brT hc1 hf
      obtain rfl := Option.some.inj hf
      exact J_vret d_Mi_reckonAlone_118
    · have hf := brF hc1 hf
      refine J_iconst (pc' := 24) (v := 1) d_Mi_reckonAlone_23 rfl ic_1 ?_
      refine J_iload (pc' := 26) d_Mi_reckonAlone_24 rfl 4 rfl ?_
      refine J_ishl (pc' := 27) d_Mi_reckonAlone_26 rfl ?_
      refine J_istore (pc' := 29) (lv' := [(5, .int (1 <<< (v4 &&& 31))), (0, rf V 43), (1, rf V v1), (2, .int v2), (3, .int v3), (4, .int v4)]) d_Mi_reckonAlone_27 rfl (by decide) rfl ?_
      refine J_aload_n (pc' := 30) d_Mi_reckonAlone_29 rfl 1 rfl ?_
      refine J_aload_n (pc' := 31) d_Mi_reckonAlone_30 rfl 2 rfl ?_
      refine J_iload_n (pc' := 32) d_Mi_reckonAlone_31 rfl 3 rfl ?_
      refine J_iload (pc' := 34) d_Mi_reckonAlone_32 rfl 5 rfl ?_
      refine J_V (pc' := 37) (as := [rf V v1, .int v2, .int v4]) (rest := []) (st' := [.int (f_Mi_keyOf σ v1 v2 v4)]) d_Mi_reckonAlone_34 rfl sh_43 rfl mv_Mi_60 (ct_Mi_keyOf V _ σ v1 v2 v4 iv1) rfl rfl ⟨Nat.le_of_ble_eq_true rfl, Nat.le_of_ble_eq_true rfl⟩ ⟨rfl, rfl⟩ (Nat.le_of_ble_eq_true rfl) rfl ?_
      refine J_istore (pc' := 39) (lv' := [(6, .int (f_Mi_keyOf σ v1 v2 v4)), (5, .int (1 <<< (v4 &&& 31))), (0, rf V 43), (1, rf V v1), (2, .int v2), (3, .int v3), (4, .int v4)]) d_Mi_reckonAlone_37 rfl (by decide) rfl ?_
      refine J_iconst (pc' := 40) (v := 0) d_Mi_reckonAlone_39 rfl ic_0 ?_
      refine J_istore (pc' := 42) (lv' := [(7, .int 0), (6, .int (f_Mi_keyOf σ v1 v2 v4)), (5, .int (1 <<< (v4 &&& 31))), (0, rf V 43), (1, rf V v1), (2, .int v2), (3, .int v3), (4, .int v4)]) d_Mi_reckonAlone_40 rfl (by decide) rfl ?_
      refine J_pick [3, 4, 5, 6, 7, 2, 1, 0] rfl ?_
      exact j_Mi_reckonAlone_42 ih FU _ _ _ _ _ _ _ _ iv1 hf
def f_Mi_reckonAlone (σ : Sg) (v1 : Nat) (v2 : Int32) (v3 : Int32) : Option Sg :=
  f_Mi_reckonAlone_10 FU (pI σ 47 0 0) v1 v2 v3 0
set_option maxHeartbeats 4000000 in
theorem j_Mi_reckonAlone {V : Vx} {X : Xx} {σ' : Sg} (σ : Sg) (v1 : Nat) (v2 : Int32) (v3 : Int32) (iv1 : is_Ro v1) (hf : f_Mi_reckonAlone σ v1 v2 v3 = some σ') : J V X (k2_rm 2 45) c_Mi_reckonAlone R_Mi 9 none (Qr V X none σ') σ 0 [(0, rf V 43), (1, rf V v1), (2, .int v2), (3, .int v3)] [] := by
  unfold f_Mi_reckonAlone at hf
  refine J_aload_n (pc' := 1) d_Mi_reckonAlone_0 rfl 0 rfl ?_
  refine J_getR (pc' := 4) d_Mi_reckonAlone_1 rfl sh_43 fl_Mi_21 rfl ?_
  refine J_iconst (pc' := 5) (v := 0) d_Mi_reckonAlone_4 rfl ic_0 ?_
  refine J_iconst (pc' := 6) (v := 0) d_Mi_reckonAlone_5 rfl ic_0 ?_
  refine J_ias (pc' := 7) d_Mi_reckonAlone_6 rfl sh_47 (vin_c (by decide)) ?_
  refine J_iconst (pc' := 8) (v := 0) d_Mi_reckonAlone_7 rfl ic_0 ?_
  refine J_istore (pc' := 10) (lv' := [(4, .int 0), (0, rf V 43), (1, rf V v1), (2, .int v2), (3, .int v3)]) d_Mi_reckonAlone_8 rfl (by decide) rfl ?_
  refine J_pick [1, 2, 3, 4, 0] rfl ?_
  exact j_Mi_reckonAlone_10 FU _ _ _ _ _ iv1 hf
theorem ct_Mi_reckonAlone (V : Vx) (l : Launch) (σ : Sg) (v1 : Nat) (v2 : Int32) (v3 : Int32) (iv1 : is_Ro v1) {σ' : Sg} (hf : f_Mi_reckonAlone σ v1 v2 v3 = some σ') : Ct V l y_Mi_reckonAlone c_Mi_reckonAlone 9 none (k2_rm 2 45) [rf V 43, rf V v1, .int v2, .int v3] σ none σ' := Ct.ofJ (by decide +kernel) (Nat.le_of_ble_eq_true rfl) fun X _ => j_Mi_reckonAlone _ v1 v2 v3 iv1 hf
def f_Mi_all (σ : Sg)  : Int32 :=
  (1 <<< ((f_JM_min (σ.1 43 5) 5) &&& 31)) - 1
set_option maxHeartbeats 4000000 in
theorem j_Mi_all {V : Vx} {X : Xx} {r : Int32} (σ : Sg) (hf : f_Mi_all σ = r) : J V X (k2_rm 1 21) c_Mi_all R_Mi 1 (some .int) (Qr V X (some (.int r)) σ) σ 0 [(0, rf V 43)] [] := by
  unfold f_Mi_all at hf
  refine J_iconst (pc' := 1) (v := 1) d_Mi_all_0 rfl ic_1 ?_
  refine J_aload_n (pc' := 2) d_Mi_all_1 rfl 0 rfl ?_
  refine J_getI (pc' := 5) d_Mi_all_2 rfl sh_43 fl_Mi_31 rfl ?_
  refine J_iconst (pc' := 6) (v := 5) d_Mi_all_5 rfl ic_5 ?_
  refine J_S (pc' := 9) (as := [.int (σ.1 43 5), .int 5]) (rest := [.int 1]) (st' := [.int (f_JM_min (σ.1 43 5) 5), .int 1]) d_Mi_all_6 rfl ms_Mi_39 (ct_JM_min V _ σ (σ.1 43 5) 5) rfl rfl ⟨Nat.le_of_ble_eq_true rfl, Nat.le_of_ble_eq_true rfl⟩ ⟨rfl, rfl⟩ (Nat.le_of_ble_eq_true rfl) rfl ?_
  refine J_ishl (pc' := 10) d_Mi_all_9 rfl ?_
  refine J_iconst (pc' := 11) (v := 1) d_Mi_all_10 rfl ic_1 ?_
  refine J_isub (pc' := 12) d_Mi_all_11 rfl ?_
  subst hf
  exact J_iret d_Mi_all_12
theorem ct_Mi_all (V : Vx) (l : Launch) (σ : Sg) : Ct V l y_Mi_all c_Mi_all 1 (some .int) (k2_rm 1 21) [rf V 43] σ (some (.int (f_Mi_all σ))) σ := Ct.ofJ (by decide +kernel) (Nat.le_of_ble_eq_true rfl) fun X _ => j_Mi_all _  rfl
def f_Mi_leastJoined_53 (k21 : Sg → Int32 → Int32 → Int32 → Option Int32) (σ : Sg) (v1 : Int32) (v2 : Int32) (v3 : Int32) : Option Int32 :=
  k21 σ v1 v2 (v3 + 1)
set_option maxHeartbeats 4000000 in
theorem j_Mi_leastJoined_53 {V : Vx} {X : Xx} {σ : Sg} {r : Int32} {k21 : Sg → Int32 → Int32 → Int32 → Option Int32} (hk21 : ∀ (v1 : Int32) (v2 : Int32) (v3 : Int32), k21 σ v1 v2 v3 = some r → J V X (k2_rm 1 21) c_Mi_leastJoined R_Mi 4 (some .int) (Qr V X (some (.int r)) σ) σ 21 [(0, rf V 43), (1, .int v1), (2, .int v2), (3, .int v3)] []) (v1 : Int32) (v2 : Int32) (v3 : Int32) (hf : f_Mi_leastJoined_53 k21 σ v1 v2 v3 = some r) : J V X (k2_rm 1 21) c_Mi_leastJoined R_Mi 4 (some .int) (Qr V X (some (.int r)) σ) σ 53 [(0, rf V 43), (1, .int v1), (2, .int v2), (3, .int v3)] [] := by
  unfold f_Mi_leastJoined_53 at hf
  refine J_iinc (pc' := 56) (j := 3) (v := 1) (lv' := [(3, .int (v3 + 1)), (0, rf V 43), (1, .int v1), (2, .int v2)]) d_Mi_leastJoined_53 rfl rfl ic_1 (by decide) rfl ?_
  refine J_goto (tgt := 21) d_Mi_leastJoined_56 (by decide) ?_
  refine J_pick [1, 2, 3, 0] rfl ?_
  exact hk21 _ _ _ hf
def f_Mi_leastJoined_21 : Nat → Sg → Int32 → Int32 → Int32 → Option Int32
  | 0, _, _, _, _ => none
  | n + 1, σ, v1, v2, v3 =>
    if v1 < v3 then
      some v2
    else
      if (v3 &&& v1) = v3 then
        gd (vin (v1 - v3) 32) (
          gd (vin v3 32) (
            f_Mi_leastJoined_53 (f_Mi_leastJoined_21 n) σ v1 (f_JM_min v2 ((σ.1 46 (v1 - v3).toNatClampNeg) + (σ.1 47 v3.toNatClampNeg))) v3))
      else
        f_Mi_leastJoined_53 (f_Mi_leastJoined_21 n) σ v1 v2 v3
theorem f_Mi_leastJoined_21_s (n : Nat) (σ : Sg) (v1 : Int32) (v2 : Int32) (v3 : Int32) : f_Mi_leastJoined_21 (n + 1) σ v1 v2 v3 =
    if v1 < v3 then
      some v2
    else
      if (v3 &&& v1) = v3 then
        gd (vin (v1 - v3) 32) (
          gd (vin v3 32) (
            f_Mi_leastJoined_53 (f_Mi_leastJoined_21 n) σ v1 (f_JM_min v2 ((σ.1 46 (v1 - v3).toNatClampNeg) + (σ.1 47 v3.toNatClampNeg))) v3))
      else
        f_Mi_leastJoined_53 (f_Mi_leastJoined_21 n) σ v1 v2 v3 := rfl
set_option maxHeartbeats 4000000 in
theorem j_Mi_leastJoined_21 {V : Vx} {X : Xx} {σ : Sg} {r : Int32}  : ∀ (n : Nat) (v1 : Int32) (v2 : Int32) (v3 : Int32), f_Mi_leastJoined_21 n σ v1 v2 v3 = some r → J V X (k2_rm 1 21) c_Mi_leastJoined R_Mi 4 (some .int) (Qr V X (some (.int r)) σ) σ 21 [(0, rf V 43), (1, .int v1), (2, .int v2), (3, .int v3)] [] := by
  intro n
  induction n with
  | zero => intro v1 v2 v3 hf; exact nn hf
  | succ n ih =>
    intro v1 v2 v3 hf
    rw [f_Mi_leastJoined_21_s] at hf
    refine J_iload_n (pc' := 22) d_Mi_leastJoined_21 rfl 3 rfl ?_
    refine J_iload_n (pc' := 23) d_Mi_leastJoined_22 rfl 1 rfl ?_
    refine J_icmp_gt (pc' := 26) (tgt := 59) d_Mi_leastJoined_23 rfl (by decide) (fun hc2 => ?_) (fun hc2 => ?_)
    · have hf := brT hc2 hf
      refine J_iload_n (pc' := 60) d_Mi_leastJoined_59 rfl 2 rfl ?_
      obtain rfl := Option.some.inj hf
      exact J_iret d_Mi_leastJoined_60
    · have hf := brF hc2 hf
      refine J_iload_n (pc' := 27) d_Mi_leastJoined_26 rfl 3 rfl ?_
      refine J_iload_n (pc' := 28) d_Mi_leastJoined_27 rfl 1 rfl ?_
      refine J_iand (pc' := 29) d_Mi_leastJoined_28 rfl ?_
      refine J_iload_n (pc' := 30) d_Mi_leastJoined_29 rfl 3 rfl ?_
      refine J_icmp_ne (pc' := 33) (tgt := 53) d_Mi_leastJoined_30 rfl (by decide) (fun hc3 => ?_) (fun hc3 => ?_)
      · have hf := brF hc3 hf
        exact j_Mi_leastJoined_53 ih _ _ _ hf
      · have hf := brT hc3 hf
        refine J_iload_n (pc' := 34) d_Mi_leastJoined_33 rfl 2 rfl ?_
        refine J_aload_n (pc' := 35) d_Mi_leastJoined_34 rfl 0 rfl ?_
        refine J_getR (pc' := 38) d_Mi_leastJoined_35 rfl sh_43 fl_Mi_18 rfl ?_
        refine J_iload_n (pc' := 39) d_Mi_leastJoined_38 rfl 1 rfl ?_
        refine J_iload_n (pc' := 40) d_Mi_leastJoined_39 rfl 3 rfl ?_
        refine J_isub (pc' := 41) d_Mi_leastJoined_40 rfl ?_
        obtain ⟨hg4, hf⟩ := gdE hf
        refine J_ial (pc' := 42) d_Mi_leastJoined_41 rfl sh_46 (vinP hg4) ?_
        refine J_aload_n (pc' := 43) d_Mi_leastJoined_42 rfl 0 rfl ?_
        refine J_getR (pc' := 46) d_Mi_leastJoined_43 rfl sh_43 fl_Mi_21 rfl ?_
        refine J_iload_n (pc' := 47) d_Mi_leastJoined_46 rfl 3 rfl ?_
        obtain ⟨hg5, hf⟩ := gdE hf
        refine J_ial (pc' := 48) d_Mi_leastJoined_47 rfl sh_47 (vinP hg5) ?_
        refine J_iadd (pc' := 49) d_Mi_leastJoined_48 rfl ?_
        refine J_S (pc' := 52) (as := [.int v2, .int ((σ.1 46 (v1 - v3).toNatClampNeg) + (σ.1 47 v3.toNatClampNeg))]) (rest := []) (st' := [.int (f_JM_min v2 ((σ.1 46 (v1 - v3).toNatClampNeg) + (σ.1 47 v3.toNatClampNeg)))]) d_Mi_leastJoined_49 rfl ms_Mi_39 (ct_JM_min V _ σ v2 ((σ.1 46 (v1 - v3).toNatClampNeg) + (σ.1 47 v3.toNatClampNeg))) rfl rfl ⟨Nat.le_of_ble_eq_true rfl, Nat.le_of_ble_eq_true rfl⟩ ⟨rfl, rfl⟩ (Nat.le_of_ble_eq_true rfl) rfl ?_
        refine J_istore_n (pc' := 53) (lv' := [(2, .int (f_JM_min v2 ((σ.1 46 (v1 - v3).toNatClampNeg) + (σ.1 47 v3.toNatClampNeg)))), (0, rf V 43), (1, .int v1), (3, .int v3)]) d_Mi_leastJoined_52 rfl rfl (by decide) rfl ?_
        refine J_pick [1, 2, 0, 3] rfl ?_
        exact j_Mi_leastJoined_53 ih _ _ _ hf
def f_Mi_leastJoined (σ : Sg) (v1 : Int32) : Option Int32 :=
  if (f_GR_isBelow v1 32) = 0 then some 268435456 else f_Mi_leastJoined_21 FU σ v1 (σ.1 46 v1.toNatClampNeg) 1
set_option maxHeartbeats 4000000 in
theorem j_Mi_leastJoined {V : Vx} {X : Xx} {r : Int32} (σ : Sg) (v1 : Int32) (hf : f_Mi_leastJoined σ v1 = some r) : J V X (k2_rm 1 21) c_Mi_leastJoined R_Mi 4 (some .int) (Qr V X (some (.int r)) σ) σ 0 [(0, rf V 43), (1, .int v1)] [] := by
  unfold f_Mi_leastJoined at hf
  refine J_iload_n (pc' := 1) d_Mi_leastJoined_0 rfl 1 rfl ?_
  refine J_bipush (pc' := 3) (v := 32) d_Mi_leastJoined_1 rfl bc_32 ?_
  refine J_S (pc' := 6) (as := [.int v1, .int 32]) (rest := []) (st' := [.int (f_GR_isBelow v1 32)]) d_Mi_leastJoined_3 rfl ms_Mi_35 (ct_GR_isBelow V _ σ v1 32) rfl rfl ⟨Nat.le_of_ble_eq_true rfl, Nat.le_of_ble_eq_true rfl⟩ ⟨rfl, rfl⟩ (Nat.le_of_ble_eq_true rfl) rfl ?_
  refine J_if_ne (pc' := 9) (tgt := 12) d_Mi_leastJoined_6 rfl (by decide) (fun hc1 => ?_) (fun hc1 => ?_)
  · have hf := brF hc1 hf
    refine J_aload_n (pc' := 13) d_Mi_leastJoined_12 rfl 0 rfl ?_
    refine J_getR (pc' := 16) d_Mi_leastJoined_13 rfl sh_43 fl_Mi_18 rfl ?_
    refine J_iload_n (pc' := 17) d_Mi_leastJoined_16 rfl 1 rfl ?_
    refine J_ial (pc' := 18) d_Mi_leastJoined_17 rfl sh_46 (vin_b hc1) ?_
    refine J_istore_n (pc' := 19) (lv' := [(2, .int (σ.1 46 v1.toNatClampNeg)), (0, rf V 43), (1, .int v1)]) d_Mi_leastJoined_18 rfl rfl (by decide) rfl ?_
    refine J_iconst (pc' := 20) (v := 1) d_Mi_leastJoined_19 rfl ic_1 ?_
    refine J_istore_n (pc' := 21) (lv' := [(3, .int 1), (2, .int (σ.1 46 v1.toNatClampNeg)), (0, rf V 43), (1, .int v1)]) d_Mi_leastJoined_20 rfl rfl (by decide) rfl ?_
    refine J_pick [2, 3, 1, 0] rfl ?_
    exact j_Mi_leastJoined_21 FU _ _ _ hf
  · have hf := brT hc1 hf
    refine J_ldc (pc' := 11) (v := 268435456) d_Mi_leastJoined_9 rfl cw_Mi_45 ?_
    obtain rfl := Option.some.inj hf
    exact J_iret d_Mi_leastJoined_11
theorem ct_Mi_leastJoined (V : Vx) (l : Launch) (σ : Sg) (v1 : Int32) {r : Int32} (hf : f_Mi_leastJoined σ v1 = some r) : Ct V l y_Mi_leastJoined c_Mi_leastJoined 4 (some .int) (k2_rm 1 21) [rf V 43, .int v1] σ (some (.int r)) σ := Ct.ofJ (by decide +kernel) (Nat.le_of_ble_eq_true rfl) fun X _ => j_Mi_leastJoined _ v1 hf
def f_Mi_join_5 : Nat → Sg → Int32 → Option Sg
  | 0, _, _ => none
  | n + 1, σ, v1 =>
    if v1 < 1 then
      some σ
    else
      (f_Mi_leastJoined σ v1).bind fun r3 =>
        gd (vin v1 32) (
          f_Mi_join_5 n (pI σ 46 v1.toNatClampNeg r3) (v1 + (-1)))
theorem f_Mi_join_5_s (n : Nat) (σ : Sg) (v1 : Int32) : f_Mi_join_5 (n + 1) σ v1 =
    if v1 < 1 then
      some σ
    else
      (f_Mi_leastJoined σ v1).bind fun r3 =>
        gd (vin v1 32) (
          f_Mi_join_5 n (pI σ 46 v1.toNatClampNeg r3) (v1 + (-1))) := rfl
set_option maxHeartbeats 4000000 in
theorem j_Mi_join_5 {V : Vx} {X : Xx} {σ' : Sg}  : ∀ (n : Nat) (σ : Sg) (v1 : Int32), f_Mi_join_5 n σ v1 = some σ' → J V X (k2_rm 2 44) c_Mi_join R_Mi 2 none (Qr V X none σ') σ 5 [(0, rf V 43), (1, .int v1)] [] := by
  intro n
  induction n with
  | zero => intro σ v1 hf; exact nn hf
  | succ n ih =>
    intro σ v1 hf
    rw [f_Mi_join_5_s] at hf
    refine J_iload_n (pc' := 6) d_Mi_join_5 rfl 1 rfl ?_
    refine J_iconst (pc' := 7) (v := 1) d_Mi_join_6 rfl ic_1 ?_
    refine J_icmp_lt (pc' := 10) (tgt := 27) d_Mi_join_7 rfl (by decide) (fun hc1 => ?_) (fun hc1 => ?_)
    · have hf := brT hc1 hf
      obtain rfl := Option.some.inj hf
      exact J_vret d_Mi_join_27
    · have hf := brF hc1 hf
      refine J_aload_n (pc' := 11) d_Mi_join_10 rfl 0 rfl ?_
      refine J_getR (pc' := 14) d_Mi_join_11 rfl sh_43 fl_Mi_18 rfl ?_
      refine J_iload_n (pc' := 15) d_Mi_join_14 rfl 1 rfl ?_
      refine J_aload_n (pc' := 16) d_Mi_join_15 rfl 0 rfl ?_
      refine J_iload_n (pc' := 17) d_Mi_join_16 rfl 1 rfl ?_
      obtain ⟨r3, hq2, hf⟩ := bpE hf
      refine J_V (pc' := 20) (as := [.int v1]) (rest := [.int v1, rf V 46]) (st' := [.int r3, .int v1, rf V 46]) d_Mi_join_17 rfl sh_43 rfl mv_Mi_92 (ct_Mi_leastJoined V _ σ v1 hq2) rfl rfl ⟨Nat.le_of_ble_eq_true rfl, Nat.le_of_ble_eq_true rfl⟩ ⟨rfl, rfl⟩ (Nat.le_of_ble_eq_true rfl) rfl ?_
      obtain ⟨hg4, hf⟩ := gdE hf
      refine J_ias (pc' := 21) d_Mi_join_20 rfl sh_46 (vinP hg4) ?_
      refine J_iinc (pc' := 24) (j := 1) (v := (-1)) (lv' := [(1, .int (v1 + (-1))), (0, rf V 43)]) d_Mi_join_21 rfl rfl ic_m1 (by decide) rfl ?_
      refine J_goto (tgt := 5) d_Mi_join_24 (by decide) ?_
      refine J_pick [1, 0] rfl ?_
      exact ih _ _ hf
def f_Mi_join (σ : Sg)  : Option Sg :=
  f_Mi_join_5 FU σ (f_Mi_all σ)
set_option maxHeartbeats 4000000 in
theorem j_Mi_join {V : Vx} {X : Xx} {σ' : Sg} (σ : Sg) (hf : f_Mi_join σ = some σ') : J V X (k2_rm 2 44) c_Mi_join R_Mi 2 none (Qr V X none σ') σ 0 [(0, rf V 43)] [] := by
  unfold f_Mi_join at hf
  refine J_aload_n (pc' := 1) d_Mi_join_0 rfl 0 rfl ?_
  refine J_V (pc' := 4) (as := []) (rest := []) (st' := [.int (f_Mi_all σ)]) d_Mi_join_1 rfl sh_43 rfl mv_Mi_88 (ct_Mi_all V _ σ) rfl rfl ⟨Nat.le_of_ble_eq_true rfl, Nat.le_of_ble_eq_true rfl⟩ ⟨rfl, rfl⟩ (Nat.le_of_ble_eq_true rfl) rfl ?_
  refine J_istore_n (pc' := 5) (lv' := [(1, .int (f_Mi_all σ)), (0, rf V 43)]) d_Mi_join_4 rfl rfl (by decide) rfl ?_
  refine J_pick [1, 0] rfl ?_
  exact j_Mi_join_5 FU _ _ hf
theorem ct_Mi_join (V : Vx) (l : Launch) (σ : Sg) {σ' : Sg} (hf : f_Mi_join σ = some σ') : Ct V l y_Mi_join c_Mi_join 2 none (k2_rm 2 44) [rf V 43] σ none σ' := Ct.ofJ (by decide +kernel) (Nat.le_of_ble_eq_true rfl) fun X _ => j_Mi_join _  hf
def f_Mi_reckon_67 (k35 : Sg → Int32 → Int32 → Int32 → Option Sg) (σ : Sg) (v2 : Int32) (v3 : Int32) (v4 : Int32) : Option Sg :=
  k35 σ v2 v3 (v4 + 1)
set_option maxHeartbeats 4000000 in
theorem j_Mi_reckon_67 {V : Vx} {X : Xx} {σ' : Sg} {k35 : Sg → Int32 → Int32 → Int32 → Option Sg} (hk35 : ∀ (σ : Sg) (v2 : Int32) (v3 : Int32) (v4 : Int32), k35 σ v2 v3 v4 = some σ' → J V X (k2_rm 3 73) c_Mi_reckon R_Mi 5 none (Qr V X none σ') σ 35 [(0, rf V 43), (1, rf V 5), (2, .int v2), (3, .int v3), (4, .int v4)] []) (σ : Sg) (v2 : Int32) (v3 : Int32) (v4 : Int32) (hf : f_Mi_reckon_67 k35 σ v2 v3 v4 = some σ') : J V X (k2_rm 3 73) c_Mi_reckon R_Mi 5 none (Qr V X none σ') σ 67 [(0, rf V 43), (1, rf V 5), (2, .int v2), (3, .int v3), (4, .int v4)] [] := by
  unfold f_Mi_reckon_67 at hf
  refine J_iinc (pc' := 70) (j := 4) (v := 1) (lv' := [(4, .int (v4 + 1)), (0, rf V 43), (1, rf V 5), (2, .int v2), (3, .int v3)]) d_Mi_reckon_67 rfl rfl ic_1 (by decide) rfl ?_
  refine J_goto (tgt := 35) d_Mi_reckon_70 (by decide) ?_
  refine J_pick [1, 2, 3, 4, 0] rfl ?_
  exact hk35 _ _ _ _ hf
def f_Mi_reckon_35 : Nat → Sg → Int32 → Int32 → Int32 → Option Sg
  | 0, _, _, _, _ => none
  | n + 1, σ, v2, v3, v4 =>
    if (σ.1 5 3) ≤ v4 then
      some σ
    else
      if v4 = v2 then
        f_Mi_reckon_67 (f_Mi_reckon_35 n) σ v2 v3 v4
      else
        (f_Mi_reckonAlone σ (f_Rs_at v4) v4 v3).bind fun σ5 =>
          (f_Mi_join σ5).bind fun σ7 =>
            f_Mi_reckon_67 (f_Mi_reckon_35 n) σ7 v2 v3 v4
theorem f_Mi_reckon_35_s (n : Nat) (σ : Sg) (v2 : Int32) (v3 : Int32) (v4 : Int32) : f_Mi_reckon_35 (n + 1) σ v2 v3 v4 =
    if (σ.1 5 3) ≤ v4 then
      some σ
    else
      if v4 = v2 then
        f_Mi_reckon_67 (f_Mi_reckon_35 n) σ v2 v3 v4
      else
        (f_Mi_reckonAlone σ (f_Rs_at v4) v4 v3).bind fun σ5 =>
          (f_Mi_join σ5).bind fun σ7 =>
            f_Mi_reckon_67 (f_Mi_reckon_35 n) σ7 v2 v3 v4 := rfl
set_option maxHeartbeats 4000000 in
theorem j_Mi_reckon_35 {V : Vx} {X : Xx} {σ' : Sg}  : ∀ (n : Nat) (σ : Sg) (v2 : Int32) (v3 : Int32) (v4 : Int32), f_Mi_reckon_35 n σ v2 v3 v4 = some σ' → J V X (k2_rm 3 73) c_Mi_reckon R_Mi 5 none (Qr V X none σ') σ 35 [(0, rf V 43), (1, rf V 5), (2, .int v2), (3, .int v3), (4, .int v4)] [] := by
  intro n
  induction n with
  | zero => intro σ v2 v3 v4 hf; exact nn hf
  | succ n ih =>
    intro σ v2 v3 v4 hf
    rw [f_Mi_reckon_35_s] at hf
    refine J_iload (pc' := 37) d_Mi_reckon_35 rfl 4 rfl ?_
    refine J_aload_n (pc' := 38) d_Mi_reckon_37 rfl 1 rfl ?_
    refine J_getI (pc' := 41) d_Mi_reckon_38 rfl sh_5 fl_Mi_46 rfl ?_
    refine J_icmp_ge (pc' := 44) (tgt := 73) d_Mi_reckon_41 rfl (by decide) (fun hc2 => ?_) (fun hc2 => ?_)
    · have hf := brT hc2 hf
      obtain rfl := Option.some.inj hf
      exact J_vret d_Mi_reckon_73
    · have hf := brF hc2 hf
      refine J_iload (pc' := 46) d_Mi_reckon_44 rfl 4 rfl ?_
      refine J_iload_n (pc' := 47) d_Mi_reckon_46 rfl 2 rfl ?_
      refine J_icmp_eq (pc' := 50) (tgt := 67) d_Mi_reckon_47 rfl (by decide) (fun hc3 => ?_) (fun hc3 => ?_)
      · have hf := brT hc3 hf
        exact j_Mi_reckon_67 ih _ _ _ _ hf
      · have hf := brF hc3 hf
        refine J_aload_n (pc' := 51) d_Mi_reckon_50 rfl 0 rfl ?_
        refine J_aload_n (pc' := 52) d_Mi_reckon_51 rfl 1 rfl ?_
        refine J_iload (pc' := 54) d_Mi_reckon_52 rfl 4 rfl ?_
        refine J_V (pc' := 57) (as := [.int v4]) (rest := [rf V 43]) (st' := [rf V (f_Rs_at v4), rf V 43]) d_Mi_reckon_54 rfl sh_5 rfl mv_Mi_49 (ct_Rs_at V _ σ v4) rfl rfl ⟨Nat.le_of_ble_eq_true rfl, Nat.le_of_ble_eq_true rfl⟩ ⟨rfl, rfl⟩ (Nat.le_of_ble_eq_true rfl) rfl ?_
        refine J_iload (pc' := 59) d_Mi_reckon_57 rfl 4 rfl ?_
        refine J_iload_n (pc' := 60) d_Mi_reckon_59 rfl 3 rfl ?_
        obtain ⟨σ5, hq4, hf⟩ := bpE hf
        refine J_V (pc' := 63) (as := [rf V (f_Rs_at v4), .int v4, .int v3]) (rest := []) (st' := []) d_Mi_reckon_60 rfl sh_43 rfl mv_Mi_53 (ct_Mi_reckonAlone V _ σ (f_Rs_at v4) v4 v3 (is_Rs_at v4) hq4) rfl rfl ⟨Nat.le_of_ble_eq_true rfl, Nat.le_of_ble_eq_true rfl⟩ ⟨rfl, rfl⟩ (Nat.le_of_ble_eq_true rfl) rfl ?_
        refine J_aload_n (pc' := 64) d_Mi_reckon_63 rfl 0 rfl ?_
        obtain ⟨σ7, hq6, hf⟩ := bpE hf
        refine J_V (pc' := 67) (as := []) (rest := []) (st' := []) d_Mi_reckon_64 rfl sh_43 rfl mv_Mi_57 (ct_Mi_join V _ σ5 hq6) rfl rfl ⟨Nat.le_of_ble_eq_true rfl, Nat.le_of_ble_eq_true rfl⟩ ⟨rfl, rfl⟩ (Nat.le_of_ble_eq_true rfl) rfl ?_
        exact j_Mi_reckon_67 ih _ _ _ _ hf
def f_Mi_reckon_3 : Nat → Sg → Int32 → Int32 → Int32 → Option Sg
  | 0, _, _, _, _ => none
  | n + 1, σ, v2, v3, v4 =>
    if 32 ≤ v4 then
      f_Mi_reckon_35 FU (pI σ 46 0 0) v2 v3 0
    else
      gd (vin v4 32) (
        f_Mi_reckon_3 n (pI σ 46 v4.toNatClampNeg 268435456) v2 v3 (v4 + 1))
theorem f_Mi_reckon_3_s (n : Nat) (σ : Sg) (v2 : Int32) (v3 : Int32) (v4 : Int32) : f_Mi_reckon_3 (n + 1) σ v2 v3 v4 =
    if 32 ≤ v4 then
      f_Mi_reckon_35 FU (pI σ 46 0 0) v2 v3 0
    else
      gd (vin v4 32) (
        f_Mi_reckon_3 n (pI σ 46 v4.toNatClampNeg 268435456) v2 v3 (v4 + 1)) := rfl
set_option maxHeartbeats 4000000 in
theorem j_Mi_reckon_3 {V : Vx} {X : Xx} {σ' : Sg}  : ∀ (n : Nat) (σ : Sg) (v2 : Int32) (v3 : Int32) (v4 : Int32), f_Mi_reckon_3 n σ v2 v3 v4 = some σ' → J V X (k2_rm 3 73) c_Mi_reckon R_Mi 5 none (Qr V X none σ') σ 3 [(0, rf V 43), (1, rf V 5), (2, .int v2), (3, .int v3), (4, .int v4)] [] := by
  intro n
  induction n with
  | zero => intro σ v2 v3 v4 hf; exact nn hf
  | succ n ih =>
    intro σ v2 v3 v4 hf
    rw [f_Mi_reckon_3_s] at hf
    refine J_iload (pc' := 5) d_Mi_reckon_3 rfl 4 rfl ?_
    refine J_bipush (pc' := 7) (v := 32) d_Mi_reckon_5 rfl bc_32 ?_
    refine J_icmp_ge (pc' := 10) (tgt := 25) d_Mi_reckon_7 rfl (by decide) (fun hc1 => ?_) (fun hc1 => ?_)
    · have hf := brT hc1 hf
      refine J_aload_n (pc' := 26) d_Mi_reckon_25 rfl 0 rfl ?_
      refine J_getR (pc' := 29) d_Mi_reckon_26 rfl sh_43 fl_Mi_18 rfl ?_
      refine J_iconst (pc' := 30) (v := 0) d_Mi_reckon_29 rfl ic_0 ?_
      refine J_iconst (pc' := 31) (v := 0) d_Mi_reckon_30 rfl ic_0 ?_
      refine J_ias (pc' := 32) d_Mi_reckon_31 rfl sh_46 (vin_c (by decide)) ?_
      refine J_iconst (pc' := 33) (v := 0) d_Mi_reckon_32 rfl ic_0 ?_
      refine J_istore (pc' := 35) (lv' := [(4, .int 0), (0, rf V 43), (1, rf V 5), (2, .int v2), (3, .int v3)]) d_Mi_reckon_33 rfl (by decide) rfl ?_
      refine J_pick [1, 2, 3, 4, 0] rfl ?_
      exact j_Mi_reckon_35 FU _ _ _ _ hf
    · have hf := brF hc1 hf
      refine J_aload_n (pc' := 11) d_Mi_reckon_10 rfl 0 rfl ?_
      refine J_getR (pc' := 14) d_Mi_reckon_11 rfl sh_43 fl_Mi_18 rfl ?_
      refine J_iload (pc' := 16) d_Mi_reckon_14 rfl 4 rfl ?_
      refine J_ldc (pc' := 18) (v := 268435456) d_Mi_reckon_16 rfl cw_Mi_45 ?_
      obtain ⟨hg8, hf⟩ := gdE hf
      refine J_ias (pc' := 19) d_Mi_reckon_18 rfl sh_46 (vinP hg8) ?_
      refine J_iinc (pc' := 22) (j := 4) (v := 1) (lv' := [(4, .int (v4 + 1)), (0, rf V 43), (1, rf V 5), (2, .int v2), (3, .int v3)]) d_Mi_reckon_19 rfl rfl ic_1 (by decide) rfl ?_
      refine J_goto (tgt := 3) d_Mi_reckon_22 (by decide) ?_
      refine J_pick [1, 2, 3, 4, 0] rfl ?_
      exact ih _ _ _ _ hf
def f_Mi_reckon (σ : Sg) (v2 : Int32) (v3 : Int32) : Option Sg :=
  f_Mi_reckon_3 FU σ v2 v3 1
set_option maxHeartbeats 4000000 in
theorem j_Mi_reckon {V : Vx} {X : Xx} {σ' : Sg} (σ : Sg) (v2 : Int32) (v3 : Int32) (hf : f_Mi_reckon σ v2 v3 = some σ') : J V X (k2_rm 3 73) c_Mi_reckon R_Mi 5 none (Qr V X none σ') σ 0 [(0, rf V 43), (1, rf V 5), (2, .int v2), (3, .int v3)] [] := by
  unfold f_Mi_reckon at hf
  refine J_iconst (pc' := 1) (v := 1) d_Mi_reckon_0 rfl ic_1 ?_
  refine J_istore (pc' := 3) (lv' := [(4, .int 1), (0, rf V 43), (1, rf V 5), (2, .int v2), (3, .int v3)]) d_Mi_reckon_1 rfl (by decide) rfl ?_
  refine J_pick [1, 2, 3, 4, 0] rfl ?_
  exact j_Mi_reckon_3 FU _ _ _ _ hf
theorem ct_Mi_reckon (V : Vx) (l : Launch) (σ : Sg) (v2 : Int32) (v3 : Int32) {σ' : Sg} (hf : f_Mi_reckon σ v2 v3 = some σ') : Ct V l y_Mi_reckon c_Mi_reckon 5 none (k2_rm 3 73) [rf V 43, rf V 5, .int v2, .int v3] σ none σ' := Ct.ofJ (by decide +kernel) (Nat.le_of_ble_eq_true rfl) fun X _ => j_Mi_reckon _ v2 v3 hf
def f_Mi_leastKey (σ : Sg)  : Option Int32 :=
  gd (vin (f_Mi_all σ) 32) (
    some (σ.1 46 (f_Mi_all σ).toNatClampNeg))
set_option maxHeartbeats 4000000 in
theorem j_Mi_leastKey {V : Vx} {X : Xx} {r : Int32} (σ : Sg) (hf : f_Mi_leastKey σ = some r) : J V X (k2_rm 2 41) c_Mi_leastKey R_Mi 1 (some .int) (Qr V X (some (.int r)) σ) σ 0 [(0, rf V 43)] [] := by
  unfold f_Mi_leastKey at hf
  refine J_aload_n (pc' := 1) d_Mi_leastKey_0 rfl 0 rfl ?_
  refine J_getR (pc' := 4) d_Mi_leastKey_1 rfl sh_43 fl_Mi_18 rfl ?_
  refine J_aload_n (pc' := 5) d_Mi_leastKey_4 rfl 0 rfl ?_
  refine J_V (pc' := 8) (as := []) (rest := [rf V 46]) (st' := [.int (f_Mi_all σ), rf V 46]) d_Mi_leastKey_5 rfl sh_43 rfl mv_Mi_88 (ct_Mi_all V _ σ) rfl rfl ⟨Nat.le_of_ble_eq_true rfl, Nat.le_of_ble_eq_true rfl⟩ ⟨rfl, rfl⟩ (Nat.le_of_ble_eq_true rfl) rfl ?_
  obtain ⟨hg1, hf⟩ := gdE hf
  refine J_ial (pc' := 9) d_Mi_leastKey_8 rfl sh_46 (vinP hg1) ?_
  obtain rfl := Option.some.inj hf
  exact J_iret d_Mi_leastKey_9
theorem ct_Mi_leastKey (V : Vx) (l : Launch) (σ : Sg) {r : Int32} (hf : f_Mi_leastKey σ = some r) : Ct V l y_Mi_leastKey c_Mi_leastKey 1 (some .int) (k2_rm 2 41) [rf V 43] σ (some (.int r)) σ := Ct.ofJ (by decide +kernel) (Nat.le_of_ble_eq_true rfl) fun X _ => j_Mi_leastKey _  hf
def f_Mi_ropeThen (σ : Sg) (v1 : Int32) : Option Int32 :=
  (f_Mi_leastKey σ).bind fun r2 =>
    if 268435456 ≤ r2 then
      some (-1)
    else
      if (f_GR_isBelow v1 (σ.1 43 5)) = 0 then
        some (-1)
      else
        (f_Mi_leastKey σ).bind fun r6 =>
          some ((r6 >>> ((f_Mi_rowShift v1) &&& 31)) &&& 7)
set_option maxHeartbeats 4000000 in
theorem j_Mi_ropeThen {V : Vx} {X : Xx} {r : Int32} (σ : Sg) (v1 : Int32) (hf : f_Mi_ropeThen σ v1 = some r) : J V X (k2_rm 3 61) c_Mi_ropeThen R_Mi 2 (some .int) (Qr V X (some (.int r)) σ) σ 0 [(0, rf V 43), (1, .int v1)] [] := by
  unfold f_Mi_ropeThen at hf
  refine J_aload_n (pc' := 1) d_Mi_ropeThen_0 rfl 0 rfl ?_
  obtain ⟨r2, hq1, hf⟩ := bpE hf
  refine J_V (pc' := 4) (as := []) (rest := []) (st' := [.int r2]) d_Mi_ropeThen_1 rfl sh_43 rfl mv_Mi_95 (ct_Mi_leastKey V _ σ hq1) rfl rfl ⟨Nat.le_of_ble_eq_true rfl, Nat.le_of_ble_eq_true rfl⟩ ⟨rfl, rfl⟩ (Nat.le_of_ble_eq_true rfl) rfl ?_
  refine J_ldc (pc' := 6) (v := 268435456) d_Mi_ropeThen_4 rfl cw_Mi_45 ?_
  refine J_icmp_ge (pc' := 9) (tgt := 20) d_Mi_ropeThen_6 rfl (by decide) (fun hc3 => ?_) (fun hc3 => ?_)
  · have hf := brT hc3 hf
    refine J_iconst (pc' := 21) (v := (-1)) d_Mi_ropeThen_20 rfl ic_m1 ?_
    obtain rfl := Option.some.inj hf
    exact J_iret d_Mi_ropeThen_21
  · have hf := brF hc3 hf
    refine J_iload_n (pc' := 10) d_Mi_ropeThen_9 rfl 1 rfl ?_
    refine J_aload_n (pc' := 11) d_Mi_ropeThen_10 rfl 0 rfl ?_
    refine J_getI (pc' := 14) d_Mi_ropeThen_11 rfl sh_43 fl_Mi_31 rfl ?_
    refine J_S (pc' := 17) (as := [.int v1, .int (σ.1 43 5)]) (rest := []) (st' := [.int (f_GR_isBelow v1 (σ.1 43 5))]) d_Mi_ropeThen_14 rfl ms_Mi_35 (ct_GR_isBelow V _ σ v1 (σ.1 43 5)) rfl rfl ⟨Nat.le_of_ble_eq_true rfl, Nat.le_of_ble_eq_true rfl⟩ ⟨rfl, rfl⟩ (Nat.le_of_ble_eq_true rfl) rfl ?_
    refine J_if_ne (pc' := 20) (tgt := 22) d_Mi_ropeThen_17 rfl (by decide) (fun hc4 => ?_) (fun hc4 => ?_)
    · have hf := brF hc4 hf
      refine J_aload_n (pc' := 23) d_Mi_ropeThen_22 rfl 0 rfl ?_
      obtain ⟨r6, hq5, hf⟩ := bpE hf
      refine J_V (pc' := 26) (as := []) (rest := []) (st' := [.int r6]) d_Mi_ropeThen_23 rfl sh_43 rfl mv_Mi_95 (ct_Mi_leastKey V _ σ hq5) rfl rfl ⟨Nat.le_of_ble_eq_true rfl, Nat.le_of_ble_eq_true rfl⟩ ⟨rfl, rfl⟩ (Nat.le_of_ble_eq_true rfl) rfl ?_
      refine J_iload_n (pc' := 27) d_Mi_ropeThen_26 rfl 1 rfl ?_
      refine J_S (pc' := 30) (as := [.int v1]) (rest := [.int r6]) (st' := [.int (f_Mi_rowShift v1), .int r6]) d_Mi_ropeThen_27 rfl ms_Mi_82 (ct_Mi_rowShift V _ σ v1) rfl rfl ⟨Nat.le_of_ble_eq_true rfl, Nat.le_of_ble_eq_true rfl⟩ ⟨rfl, rfl⟩ (Nat.le_of_ble_eq_true rfl) rfl ?_
      refine J_ishr (pc' := 31) d_Mi_ropeThen_30 rfl ?_
      refine J_bipush (pc' := 33) (v := 7) d_Mi_ropeThen_31 rfl bc_7 ?_
      refine J_iand (pc' := 34) d_Mi_ropeThen_33 rfl ?_
      obtain rfl := Option.some.inj hf
      exact J_iret d_Mi_ropeThen_34
    · have hf := brT hc4 hf
      refine J_iconst (pc' := 21) (v := (-1)) d_Mi_ropeThen_20 rfl ic_m1 ?_
      obtain rfl := Option.some.inj hf
      exact J_iret d_Mi_ropeThen_21
theorem ct_Mi_ropeThen (V : Vx) (l : Launch) (σ : Sg) (v1 : Int32) {r : Int32} (hf : f_Mi_ropeThen σ v1 = some r) : Ct V l y_Mi_ropeThen c_Mi_ropeThen 2 (some .int) (k2_rm 3 61) [rf V 43, .int v1] σ (some (.int r)) σ := Ct.ofJ (by decide +kernel) (Nat.le_of_ble_eq_true rfl) fun X _ => j_Mi_ropeThen _ v1 hf
def f_Mi_timeThen_51 (k15 : Sg → Int32 → Int32 → Option Int32) (k29 : Sg → Int32 → Int32 → Int32 → Int32 → Option Int32) (σ : Sg) (v2 : Int32) (v3 : Int32) (v4 : Int32) (v5 : Int32) : Option Int32 :=
  k29 σ v2 v3 v4 (v5 + 1)
set_option maxHeartbeats 4000000 in
theorem j_Mi_timeThen_51 {V : Vx} {X : Xx} {σ : Sg} {r : Int32} {k15 : Sg → Int32 → Int32 → Option Int32} {k29 : Sg → Int32 → Int32 → Int32 → Int32 → Option Int32} (hk15 : ∀ (v2 : Int32) (v3 : Int32), k15 σ v2 v3 = some r → J V X (k2_rm 4 82) c_Mi_timeThen R_Mi 6 (some .int) (Qr V X (some (.int r)) σ) σ 15 [(0, rf V 43), (1, rf V 5), (2, .int v2), (3, .int v3)] []) (hk29 : ∀ (v2 : Int32) (v3 : Int32) (v4 : Int32) (v5 : Int32), k29 σ v2 v3 v4 v5 = some r → J V X (k2_rm 4 82) c_Mi_timeThen R_Mi 6 (some .int) (Qr V X (some (.int r)) σ) σ 29 [(0, rf V 43), (1, rf V 5), (2, .int v2), (3, .int v3), (4, .int v4), (5, .int v5)] []) (v2 : Int32) (v3 : Int32) (v4 : Int32) (v5 : Int32) (hf : f_Mi_timeThen_51 k15 k29 σ v2 v3 v4 v5 = some r) : J V X (k2_rm 4 82) c_Mi_timeThen R_Mi 6 (some .int) (Qr V X (some (.int r)) σ) σ 51 [(0, rf V 43), (1, rf V 5), (2, .int v2), (3, .int v3), (4, .int v4), (5, .int v5)] [] := by
  unfold f_Mi_timeThen_51 at hf
  refine J_iinc (pc' := 54) (j := 5) (v := 1) (lv' := [(5, .int (v5 + 1)), (0, rf V 43), (1, rf V 5), (2, .int v2), (3, .int v3), (4, .int v4)]) d_Mi_timeThen_51 rfl rfl ic_1 (by decide) rfl ?_
  refine J_goto (tgt := 29) d_Mi_timeThen_54 (by decide) ?_
  refine J_pick [1, 2, 3, 4, 5, 0] rfl ?_
  exact hk29 _ _ _ _ hf
def f_Mi_timeThen_29 (k15 : Sg → Int32 → Int32 → Option Int32) : Nat → Sg → Int32 → Int32 → Int32 → Int32 → Option Int32
  | 0, _, _, _, _, _ => none
  | n + 1, σ, v2, v3, v4, v5 =>
    if (σ.1 43 5) ≤ v5 then
      k15 σ (f_JM_max v2 (f_Mi_timeOf σ (f_Rs_at v3) v4)) (v3 + 1)
    else
      (f_Mi_ropeThen σ v5).bind fun r7 =>
        if r7 = v3 then
          f_Mi_timeThen_51 k15 (f_Mi_timeThen_29 k15 n) σ v2 v3 (v4 + 1) v5
        else
          f_Mi_timeThen_51 k15 (f_Mi_timeThen_29 k15 n) σ v2 v3 v4 v5
theorem f_Mi_timeThen_29_s (k15 : Sg → Int32 → Int32 → Option Int32) (n : Nat) (σ : Sg) (v2 : Int32) (v3 : Int32) (v4 : Int32) (v5 : Int32) : f_Mi_timeThen_29 k15 (n + 1) σ v2 v3 v4 v5 =
    if (σ.1 43 5) ≤ v5 then
      k15 σ (f_JM_max v2 (f_Mi_timeOf σ (f_Rs_at v3) v4)) (v3 + 1)
    else
      (f_Mi_ropeThen σ v5).bind fun r7 =>
        if r7 = v3 then
          f_Mi_timeThen_51 k15 (f_Mi_timeThen_29 k15 n) σ v2 v3 (v4 + 1) v5
        else
          f_Mi_timeThen_51 k15 (f_Mi_timeThen_29 k15 n) σ v2 v3 v4 v5 := rfl
set_option maxHeartbeats 4000000 in
theorem j_Mi_timeThen_29 {V : Vx} {X : Xx} {σ : Sg} {r : Int32} {k15 : Sg → Int32 → Int32 → Option Int32} (hk15 : ∀ (v2 : Int32) (v3 : Int32), k15 σ v2 v3 = some r → J V X (k2_rm 4 82) c_Mi_timeThen R_Mi 6 (some .int) (Qr V X (some (.int r)) σ) σ 15 [(0, rf V 43), (1, rf V 5), (2, .int v2), (3, .int v3)] []) : ∀ (n : Nat) (v2 : Int32) (v3 : Int32) (v4 : Int32) (v5 : Int32), f_Mi_timeThen_29 k15 n σ v2 v3 v4 v5 = some r → J V X (k2_rm 4 82) c_Mi_timeThen R_Mi 6 (some .int) (Qr V X (some (.int r)) σ) σ 29 [(0, rf V 43), (1, rf V 5), (2, .int v2), (3, .int v3), (4, .int v4), (5, .int v5)] [] := by
  intro n
  induction n with
  | zero => intro v2 v3 v4 v5 hf; exact nn hf
  | succ n ih =>
    intro v2 v3 v4 v5 hf
    rw [f_Mi_timeThen_29_s] at hf
    refine J_iload (pc' := 31) d_Mi_timeThen_29 rfl 5 rfl ?_
    refine J_aload_n (pc' := 32) d_Mi_timeThen_31 rfl 0 rfl ?_
    refine J_getI (pc' := 35) d_Mi_timeThen_32 rfl sh_43 fl_Mi_31 rfl ?_
    refine J_icmp_ge (pc' := 38) (tgt := 57) d_Mi_timeThen_35 rfl (by decide) (fun hc5 => ?_) (fun hc5 => ?_)
    · have hf := brT hc5 hf
      refine J_iload_n (pc' := 58) d_Mi_timeThen_57 rfl 2 rfl ?_
      refine J_aload_n (pc' := 59) d_Mi_timeThen_58 rfl 1 rfl ?_
      refine J_iload_n (pc' := 60) d_Mi_timeThen_59 rfl 3 rfl ?_
      refine J_V (pc' := 63) (as := [.int v3]) (rest := [.int v2]) (st' := [rf V (f_Rs_at v3), .int v2]) d_Mi_timeThen_60 rfl sh_5 rfl mv_Mi_49 (ct_Rs_at V _ σ v3) rfl rfl ⟨Nat.le_of_ble_eq_true rfl, Nat.le_of_ble_eq_true rfl⟩ ⟨rfl, rfl⟩ (Nat.le_of_ble_eq_true rfl) rfl ?_
      refine J_iload (pc' := 65) d_Mi_timeThen_63 rfl 4 rfl ?_
      refine J_S (pc' := 68) (as := [rf V (f_Rs_at v3), .int v4]) (rest := [.int v2]) (st' := [.int (f_Mi_timeOf σ (f_Rs_at v3) v4), .int v2]) d_Mi_timeThen_65 rfl ms_Mi_70 (ct_Mi_timeOf V _ σ (f_Rs_at v3) v4 (is_Rs_at v3)) rfl rfl ⟨Nat.le_of_ble_eq_true rfl, Nat.le_of_ble_eq_true rfl⟩ ⟨rfl, rfl⟩ (Nat.le_of_ble_eq_true rfl) rfl ?_
      refine J_S (pc' := 71) (as := [.int v2, .int (f_Mi_timeOf σ (f_Rs_at v3) v4)]) (rest := []) (st' := [.int (f_JM_max v2 (f_Mi_timeOf σ (f_Rs_at v3) v4))]) d_Mi_timeThen_68 rfl ms_Mi_104 (ct_JM_max V _ σ v2 (f_Mi_timeOf σ (f_Rs_at v3) v4)) rfl rfl ⟨Nat.le_of_ble_eq_true rfl, Nat.le_of_ble_eq_true rfl⟩ ⟨rfl, rfl⟩ (Nat.le_of_ble_eq_true rfl) rfl ?_
      refine J_istore_n (pc' := 72) (lv' := [(2, .int (f_JM_max v2 (f_Mi_timeOf σ (f_Rs_at v3) v4))), (0, rf V 43), (1, rf V 5), (3, .int v3), (4, .int v4), (5, .int v5)]) d_Mi_timeThen_71 rfl rfl (by decide) rfl ?_
      refine J_iinc (pc' := 75) (j := 3) (v := 1) (lv' := [(3, .int (v3 + 1)), (2, .int (f_JM_max v2 (f_Mi_timeOf σ (f_Rs_at v3) v4))), (0, rf V 43), (1, rf V 5), (4, .int v4), (5, .int v5)]) d_Mi_timeThen_72 rfl rfl ic_1 (by decide) rfl ?_
      refine J_goto (tgt := 15) d_Mi_timeThen_75 (by decide) ?_
      refine J_pick [2, 3, 1, 0] rfl ?_
      exact hk15 _ _ hf
    · have hf := brF hc5 hf
      refine J_aload_n (pc' := 39) d_Mi_timeThen_38 rfl 0 rfl ?_
      refine J_iload (pc' := 41) d_Mi_timeThen_39 rfl 5 rfl ?_
      obtain ⟨r7, hq6, hf⟩ := bpE hf
      refine J_V (pc' := 44) (as := [.int v5]) (rest := []) (st' := [.int r7]) d_Mi_timeThen_41 rfl sh_43 rfl mv_Mi_101 (ct_Mi_ropeThen V _ σ v5 hq6) rfl rfl ⟨Nat.le_of_ble_eq_true rfl, Nat.le_of_ble_eq_true rfl⟩ ⟨rfl, rfl⟩ (Nat.le_of_ble_eq_true rfl) rfl ?_
      refine J_iload_n (pc' := 45) d_Mi_timeThen_44 rfl 3 rfl ?_
      refine J_icmp_ne (pc' := 48) (tgt := 51) d_Mi_timeThen_45 rfl (by decide) (fun hc8 => ?_) (fun hc8 => ?_)
      · have hf := brF hc8 hf
        exact j_Mi_timeThen_51 hk15 ih _ _ _ _ hf
      · have hf := brT hc8 hf
        refine J_iinc (pc' := 51) (j := 4) (v := 1) (lv' := [(4, .int (v4 + 1)), (0, rf V 43), (1, rf V 5), (2, .int v2), (3, .int v3), (5, .int v5)]) d_Mi_timeThen_48 rfl rfl ic_1 (by decide) rfl ?_
        refine J_pick [1, 2, 3, 4, 0, 5] rfl ?_
        exact j_Mi_timeThen_51 hk15 ih _ _ _ _ hf
def f_Mi_timeThen_15 : Nat → Sg → Int32 → Int32 → Option Int32
  | 0, _, _, _ => none
  | n + 1, σ, v2, v3 =>
    if (σ.1 5 3) ≤ v3 then some v2 else f_Mi_timeThen_29 (f_Mi_timeThen_15 n) FU σ v2 v3 0 0
theorem f_Mi_timeThen_15_s (n : Nat) (σ : Sg) (v2 : Int32) (v3 : Int32) : f_Mi_timeThen_15 (n + 1) σ v2 v3 =
    if (σ.1 5 3) ≤ v3 then some v2 else f_Mi_timeThen_29 (f_Mi_timeThen_15 n) FU σ v2 v3 0 0 := rfl
set_option maxHeartbeats 4000000 in
theorem j_Mi_timeThen_15 {V : Vx} {X : Xx} {σ : Sg} {r : Int32}  : ∀ (n : Nat) (v2 : Int32) (v3 : Int32), f_Mi_timeThen_15 n σ v2 v3 = some r → J V X (k2_rm 4 82) c_Mi_timeThen R_Mi 6 (some .int) (Qr V X (some (.int r)) σ) σ 15 [(0, rf V 43), (1, rf V 5), (2, .int v2), (3, .int v3)] [] := by
  intro n
  induction n with
  | zero => intro v2 v3 hf; exact nn hf
  | succ n ih =>
    intro v2 v3 hf
    rw [f_Mi_timeThen_15_s] at hf
    refine J_iload_n (pc' := 16) d_Mi_timeThen_15 rfl 3 rfl ?_
    refine J_aload_n (pc' := 17) d_Mi_timeThen_16 rfl 1 rfl ?_
    refine J_getI (pc' := 20) d_Mi_timeThen_17 rfl sh_5 fl_Mi_46 rfl ?_
    refine J_icmp_ge (pc' := 23) (tgt := 78) d_Mi_timeThen_20 rfl (by decide) (fun hc4 => ?_) (fun hc4 => ?_)
    · have hf := brT hc4 hf
      refine J_iload_n (pc' := 79) d_Mi_timeThen_78 rfl 2 rfl ?_
      obtain rfl := Option.some.inj hf
      exact J_iret d_Mi_timeThen_79
    · have hf := brF hc4 hf
      refine J_iconst (pc' := 24) (v := 0) d_Mi_timeThen_23 rfl ic_0 ?_
      refine J_istore (pc' := 26) (lv' := [(4, .int 0), (0, rf V 43), (1, rf V 5), (2, .int v2), (3, .int v3)]) d_Mi_timeThen_24 rfl (by decide) rfl ?_
      refine J_iconst (pc' := 27) (v := 0) d_Mi_timeThen_26 rfl ic_0 ?_
      refine J_istore (pc' := 29) (lv' := [(5, .int 0), (4, .int 0), (0, rf V 43), (1, rf V 5), (2, .int v2), (3, .int v3)]) d_Mi_timeThen_27 rfl (by decide) rfl ?_
      refine J_pick [2, 3, 4, 5, 1, 0] rfl ?_
      exact j_Mi_timeThen_29 ih FU _ _ _ _ hf
def f_Mi_timeThen (σ : Sg)  : Option Int32 :=
  (f_Mi_leastKey σ).bind fun r2 =>
    if r2 < 268435456 then f_Mi_timeThen_15 FU σ 0 0 else some (-1)
set_option maxHeartbeats 4000000 in
theorem j_Mi_timeThen {V : Vx} {X : Xx} {r : Int32} (σ : Sg) (hf : f_Mi_timeThen σ = some r) : J V X (k2_rm 4 82) c_Mi_timeThen R_Mi 6 (some .int) (Qr V X (some (.int r)) σ) σ 0 [(0, rf V 43), (1, rf V 5)] [] := by
  unfold f_Mi_timeThen at hf
  refine J_aload_n (pc' := 1) d_Mi_timeThen_0 rfl 0 rfl ?_
  obtain ⟨r2, hq1, hf⟩ := bpE hf
  refine J_V (pc' := 4) (as := []) (rest := []) (st' := [.int r2]) d_Mi_timeThen_1 rfl sh_43 rfl mv_Mi_95 (ct_Mi_leastKey V _ σ hq1) rfl rfl ⟨Nat.le_of_ble_eq_true rfl, Nat.le_of_ble_eq_true rfl⟩ ⟨rfl, rfl⟩ (Nat.le_of_ble_eq_true rfl) rfl ?_
  refine J_ldc (pc' := 6) (v := 268435456) d_Mi_timeThen_4 rfl cw_Mi_45 ?_
  refine J_icmp_lt (pc' := 9) (tgt := 11) d_Mi_timeThen_6 rfl (by decide) (fun hc3 => ?_) (fun hc3 => ?_)
  · have hf := brT hc3 hf
    refine J_iconst (pc' := 12) (v := 0) d_Mi_timeThen_11 rfl ic_0 ?_
    refine J_istore_n (pc' := 13) (lv' := [(2, .int 0), (0, rf V 43), (1, rf V 5)]) d_Mi_timeThen_12 rfl rfl (by decide) rfl ?_
    refine J_iconst (pc' := 14) (v := 0) d_Mi_timeThen_13 rfl ic_0 ?_
    refine J_istore_n (pc' := 15) (lv' := [(3, .int 0), (2, .int 0), (0, rf V 43), (1, rf V 5)]) d_Mi_timeThen_14 rfl rfl (by decide) rfl ?_
    refine J_pick [2, 3, 1, 0] rfl ?_
    exact j_Mi_timeThen_15 FU _ _ hf
  · have hf := brF hc3 hf
    refine J_iconst (pc' := 10) (v := (-1)) d_Mi_timeThen_9 rfl ic_m1 ?_
    obtain rfl := Option.some.inj hf
    exact J_iret d_Mi_timeThen_10
theorem ct_Mi_timeThen (V : Vx) (l : Launch) (σ : Sg) {r : Int32} (hf : f_Mi_timeThen σ = some r) : Ct V l y_Mi_timeThen c_Mi_timeThen 6 (some .int) (k2_rm 4 82) [rf V 43, rf V 5] σ (some (.int r)) σ := Ct.ofJ (by decide +kernel) (Nat.le_of_ble_eq_true rfl) fun X _ => j_Mi_timeThen _  hf
def f_Mi_costOf (v0 : Int32) : Int32 :=
  if 268435456 ≤ v0 then (-1) else v0 >>> (15 &&& 31)
set_option maxHeartbeats 4000000 in
theorem j_Mi_costOf {V : Vx} {X : Xx} {r : Int32} (σ : Sg) (v0 : Int32) (hf : f_Mi_costOf v0 = r) : J V X (k2_rm 0 0) c_Mi_costOf R_Mi 1 (some .int) (Qr V X (some (.int r)) σ) σ 0 [(0, .int v0)] [] := by
  unfold f_Mi_costOf at hf
  refine J_iload_n (pc' := 1) d_Mi_costOf_0 rfl 0 rfl ?_
  refine J_ldc (pc' := 3) (v := 268435456) d_Mi_costOf_1 rfl cw_Mi_45 ?_
  refine J_icmp_ge (pc' := 6) (tgt := 13) d_Mi_costOf_3 rfl (by decide) (fun hc1 => ?_) (fun hc1 => ?_)
  · have hf := brT hc1 hf
    refine J_iconst (pc' := 14) (v := (-1)) d_Mi_costOf_13 rfl ic_m1 ?_
    subst hf
    exact J_iret d_Mi_costOf_14
  · have hf := brF hc1 hf
    refine J_iload_n (pc' := 7) d_Mi_costOf_6 rfl 0 rfl ?_
    refine J_bipush (pc' := 9) (v := 15) d_Mi_costOf_7 rfl bc_15 ?_
    refine J_ishr (pc' := 10) d_Mi_costOf_9 rfl ?_
    refine J_goto (tgt := 14) d_Mi_costOf_10 (by decide) ?_
    subst hf
    exact J_iret d_Mi_costOf_14
theorem ct_Mi_costOf (V : Vx) (l : Launch) (σ : Sg) (v0 : Int32) : Ct V l y_Mi_costOf c_Mi_costOf 1 (some .int) (k2_rm 0 0) [.int v0] σ (some (.int (f_Mi_costOf v0))) σ := Ct.ofJ (by decide +kernel) (Nat.le_of_ble_eq_true rfl) fun X _ => j_Mi_costOf _ v0 rfl
def f_Mi_leastCost (σ : Sg)  : Option Int32 :=
  (f_Mi_leastKey σ).bind fun r2 =>
    some (f_Mi_costOf r2)
set_option maxHeartbeats 4000000 in
theorem j_Mi_leastCost {V : Vx} {X : Xx} {r : Int32} (σ : Sg) (hf : f_Mi_leastCost σ = some r) : J V X (k2_rm 3 61) c_Mi_leastCost R_Mi 1 (some .int) (Qr V X (some (.int r)) σ) σ 0 [(0, rf V 43)] [] := by
  unfold f_Mi_leastCost at hf
  refine J_aload_n (pc' := 1) d_Mi_leastCost_0 rfl 0 rfl ?_
  obtain ⟨r2, hq1, hf⟩ := bpE hf
  refine J_V (pc' := 4) (as := []) (rest := []) (st' := [.int r2]) d_Mi_leastCost_1 rfl sh_43 rfl mv_Mi_95 (ct_Mi_leastKey V _ σ hq1) rfl rfl ⟨Nat.le_of_ble_eq_true rfl, Nat.le_of_ble_eq_true rfl⟩ ⟨rfl, rfl⟩ (Nat.le_of_ble_eq_true rfl) rfl ?_
  refine J_S (pc' := 7) (as := [.int r2]) (rest := []) (st' := [.int (f_Mi_costOf r2)]) d_Mi_leastCost_4 rfl ms_Mi_98 (ct_Mi_costOf V _ σ r2) rfl rfl ⟨Nat.le_of_ble_eq_true rfl, Nat.le_of_ble_eq_true rfl⟩ ⟨rfl, rfl⟩ (Nat.le_of_ble_eq_true rfl) rfl ?_
  obtain rfl := Option.some.inj hf
  exact J_iret d_Mi_leastCost_7
theorem ct_Mi_leastCost (V : Vx) (l : Launch) (σ : Sg) {r : Int32} (hf : f_Mi_leastCost σ = some r) : Ct V l y_Mi_leastCost c_Mi_leastCost 1 (some .int) (k2_rm 3 61) [rf V 43] σ (some (.int r)) σ := Ct.ofJ (by decide +kernel) (Nat.le_of_ble_eq_true rfl) fun X _ => j_Mi_leastCost _  hf
def f_GR_sentAsReckoned (σ : Sg) (v1 : Int32) : Option Int32 :=
  if v1 = (-1) then
    (f_Mi_leastCost σ).bind fun r8 =>
      some r8
  else
    if v1 = (-2) then
      (f_Mi_timeThen σ).bind fun r6 =>
        some r6
    else
      (f_Mi_ropeThen σ v1).bind fun r4 =>
        some r4
set_option maxHeartbeats 4000000 in
theorem j_GR_sentAsReckoned {V : Vx} {X : Xx} {r : Int32} (σ : Sg) (v1 : Int32) (hf : f_GR_sentAsReckoned σ v1 = some r) : J V X (k2_rm 5 107) c_GR_sentAsReckoned R_GR 2 (some .int) (Qr V X (some (.int r)) σ) σ 0 [(0, rf V 0), (1, .int v1)] [] := by
  unfold f_GR_sentAsReckoned at hf
  refine J_iload_n (pc' := 1) d_GR_sentAsReckoned_0 rfl 1 rfl ?_
  refine J_iconst (pc' := 2) (v := (-1)) d_GR_sentAsReckoned_1 rfl ic_m1 ?_
  refine J_icmp_ne (pc' := 5) (tgt := 13) d_GR_sentAsReckoned_2 rfl (by decide) (fun hc1 => ?_) (fun hc1 => ?_)
  · have hf := brF hc1 hf
    refine J_iload_n (pc' := 14) d_GR_sentAsReckoned_13 rfl 1 rfl ?_
    refine J_bipush (pc' := 16) (v := (-2)) d_GR_sentAsReckoned_14 rfl bc_m2 ?_
    refine J_icmp_ne (pc' := 19) (tgt := 33) d_GR_sentAsReckoned_16 rfl (by decide) (fun hc2 => ?_) (fun hc2 => ?_)
    · have hf := brF hc2 hf
      refine J_aload_n (pc' := 34) d_GR_sentAsReckoned_33 rfl 0 rfl ?_
      refine J_getR (pc' := 37) d_GR_sentAsReckoned_34 rfl sh_0 fl_GR_49 rfl ?_
      refine J_iload_n (pc' := 38) d_GR_sentAsReckoned_37 rfl 1 rfl ?_
      obtain ⟨r4, hq3, hf⟩ := bpE hf
      refine J_V (pc' := 41) (as := [.int v1]) (rest := []) (st' := [.int r4]) d_GR_sentAsReckoned_38 rfl sh_43 rfl mv_GR_365 (ct_Mi_ropeThen V _ σ v1 hq3) rfl rfl ⟨Nat.le_of_ble_eq_true rfl, Nat.le_of_ble_eq_true rfl⟩ ⟨rfl, rfl⟩ (Nat.le_of_ble_eq_true rfl) rfl ?_
      obtain rfl := Option.some.inj hf
      exact J_iret d_GR_sentAsReckoned_41
    · have hf := brT hc2 hf
      refine J_aload_n (pc' := 20) d_GR_sentAsReckoned_19 rfl 0 rfl ?_
      refine J_getR (pc' := 23) d_GR_sentAsReckoned_20 rfl sh_0 fl_GR_49 rfl ?_
      refine J_aload_n (pc' := 24) d_GR_sentAsReckoned_23 rfl 0 rfl ?_
      refine J_getR (pc' := 27) d_GR_sentAsReckoned_24 rfl sh_0 fl_GR_24 rfl ?_
      obtain ⟨r6, hq5, hf⟩ := bpE hf
      refine J_V (pc' := 30) (as := [rf V 5]) (rest := []) (st' := [.int r6]) d_GR_sentAsReckoned_27 rfl sh_43 rfl mv_GR_361 (ct_Mi_timeThen V _ σ hq5) rfl rfl ⟨Nat.le_of_ble_eq_true rfl, Nat.le_of_ble_eq_true rfl⟩ ⟨rfl, rfl⟩ (Nat.le_of_ble_eq_true rfl) rfl ?_
      refine J_goto (tgt := 41) d_GR_sentAsReckoned_30 (by decide) ?_
      obtain rfl := Option.some.inj hf
      exact J_iret d_GR_sentAsReckoned_41
  · have hf := brT hc1 hf
    refine J_aload_n (pc' := 6) d_GR_sentAsReckoned_5 rfl 0 rfl ?_
    refine J_getR (pc' := 9) d_GR_sentAsReckoned_6 rfl sh_0 fl_GR_49 rfl ?_
    obtain ⟨r8, hq7, hf⟩ := bpE hf
    refine J_V (pc' := 12) (as := []) (rest := []) (st' := [.int r8]) d_GR_sentAsReckoned_9 rfl sh_43 rfl mv_GR_242 (ct_Mi_leastCost V _ σ hq7) rfl rfl ⟨Nat.le_of_ble_eq_true rfl, Nat.le_of_ble_eq_true rfl⟩ ⟨rfl, rfl⟩ (Nat.le_of_ble_eq_true rfl) rfl ?_
    obtain rfl := Option.some.inj hf
    exact J_iret d_GR_sentAsReckoned_12
theorem ct_GR_sentAsReckoned (V : Vx) (l : Launch) (σ : Sg) (v1 : Int32) {r : Int32} (hf : f_GR_sentAsReckoned σ v1 = some r) : Ct V l y_GR_sentAsReckoned c_GR_sentAsReckoned 2 (some .int) (k2_rm 5 107) [rf V 0, .int v1] σ (some (.int r)) σ := Ct.ofJ (by decide +kernel) (Nat.le_of_ble_eq_true rfl) fun X _ => j_GR_sentAsReckoned _ v1 hf
