theorem d_Md_crosses_0 : decode c_Md_crosses 0 = .ok (.aload_n 0, 1) := by decide +kernel
theorem d_Md_crosses_1 : decode c_Md_crosses 1 = .ok (.iload_n 1, 1) := by decide +kernel
theorem d_Md_crosses_2 : decode c_Md_crosses 2 = .ok (.iload_n 2, 1) := by decide +kernel
theorem d_Md_crosses_3 : decode c_Md_crosses 3 = .ok (.invokevirtual 158, 3) := by decide +kernel
theorem d_Md_crosses_6 : decode c_Md_crosses 6 = .ok (.ifCond .eq 10, 3) := by decide +kernel
theorem d_Md_crosses_9 : decode c_Md_crosses 9 = .ok (.iload_n 3, 1) := by decide +kernel
theorem d_Md_crosses_10 : decode c_Md_crosses 10 = .ok (.invokestatic 106, 3) := by decide +kernel
theorem d_Md_crosses_13 : decode c_Md_crosses 13 = .ok (.ifCond .ne 6, 3) := by decide +kernel
theorem d_Md_crosses_16 : decode c_Md_crosses 16 = .ok (.bipush (-2), 2) := by decide +kernel
theorem d_Md_crosses_18 : decode c_Md_crosses 18 = .ok (.ireturn, 1) := by decide +kernel
theorem d_Md_crosses_19 : decode c_Md_crosses 19 = .ok (.iload_n 3, 1) := by decide +kernel
theorem d_Md_crosses_20 : decode c_Md_crosses 20 = .ok (.iconst 1, 1) := by decide +kernel
theorem d_Md_crosses_21 : decode c_Md_crosses 21 = .ok (.if_icmp .ne 11, 3) := by decide +kernel
theorem d_Md_crosses_24 : decode c_Md_crosses 24 = .ok (.aload_n 0, 1) := by decide +kernel
theorem d_Md_crosses_25 : decode c_Md_crosses 25 = .ok (.iload_n 1, 1) := by decide +kernel
theorem d_Md_crosses_26 : decode c_Md_crosses 26 = .ok (.invokevirtual 161, 3) := by decide +kernel
theorem d_Md_crosses_29 : decode c_Md_crosses 29 = .ok (.goto 17, 3) := by decide +kernel
theorem d_Md_crosses_32 : decode c_Md_crosses 32 = .ok (.aload_n 0, 1) := by decide +kernel
theorem d_Md_crosses_33 : decode c_Md_crosses 33 = .ok (.iload_n 1, 1) := by decide +kernel
theorem d_Md_crosses_34 : decode c_Md_crosses 34 = .ok (.iload_n 2, 1) := by decide +kernel
theorem d_Md_crosses_35 : decode c_Md_crosses 35 = .ok (.invokevirtual 154, 3) := by decide +kernel
theorem d_Md_crosses_38 : decode c_Md_crosses 38 = .ok (.ifCond .eq 7, 3) := by decide +kernel
theorem d_Md_crosses_41 : decode c_Md_crosses 41 = .ok (.iconst 1, 1) := by decide +kernel
theorem d_Md_crosses_42 : decode c_Md_crosses 42 = .ok (.goto 4, 3) := by decide +kernel
theorem d_Md_crosses_45 : decode c_Md_crosses 45 = .ok (.iconst 0, 1) := by decide +kernel
theorem d_Md_crosses_46 : decode c_Md_crosses 46 = .ok (.ireturn, 1) := by decide +kernel
theorem d_Md_no_0 : decode c_Md_no 0 = .ok (.ldc2_w 71, 3) := by decide +kernel
theorem d_Md_no_3 : decode c_Md_no 3 = .ok (.iload_n 0, 1) := by decide +kernel
theorem d_Md_no_4 : decode c_Md_no 4 = .ok (.i2l, 1) := by decide +kernel
theorem d_Md_no_5 : decode c_Md_no 5 = .ok (.lsub, 1) := by decide +kernel
theorem d_Md_no_6 : decode c_Md_no 6 = .ok (.lreturn, 1) := by decide +kernel
theorem d_Md_findPlace_0 : decode c_Md_findPlace 0 = .ok (.aload_n 0, 1) := by decide +kernel
theorem d_Md_findPlace_1 : decode c_Md_findPlace 1 = .ok (.iload_n 1, 1) := by decide +kernel
theorem d_Md_findPlace_2 : decode c_Md_findPlace 2 = .ok (.iload_n 2, 1) := by decide +kernel
theorem d_Md_findPlace_3 : decode c_Md_findPlace 3 = .ok (.iconst 0, 1) := by decide +kernel
theorem d_Md_findPlace_4 : decode c_Md_findPlace 4 = .ok (.invokevirtual 151, 3) := by decide +kernel
theorem d_Md_findPlace_7 : decode c_Md_findPlace 7 = .ok (.istore_n 3, 1) := by decide +kernel
theorem d_Md_findPlace_8 : decode c_Md_findPlace 8 = .ok (.aload_n 0, 1) := by decide +kernel
theorem d_Md_findPlace_9 : decode c_Md_findPlace 9 = .ok (.iload_n 1, 1) := by decide +kernel
theorem d_Md_findPlace_10 : decode c_Md_findPlace 10 = .ok (.iload_n 2, 1) := by decide +kernel
theorem d_Md_findPlace_11 : decode c_Md_findPlace 11 = .ok (.iconst 1, 1) := by decide +kernel
theorem d_Md_findPlace_12 : decode c_Md_findPlace 12 = .ok (.invokevirtual 151, 3) := by decide +kernel
theorem d_Md_findPlace_15 : decode c_Md_findPlace 15 = .ok (.istore 4, 2) := by decide +kernel
theorem d_Md_findPlace_17 : decode c_Md_findPlace 17 = .ok (.aload_n 0, 1) := by decide +kernel
theorem d_Md_findPlace_18 : decode c_Md_findPlace 18 = .ok (.iload_n 3, 1) := by decide +kernel
theorem d_Md_findPlace_19 : decode c_Md_findPlace 19 = .ok (.ifCond .ge 8, 3) := by decide +kernel
theorem d_Md_findPlace_22 : decode c_Md_findPlace 22 = .ok (.iload_n 3, 1) := by decide +kernel
theorem d_Md_findPlace_23 : decode c_Md_findPlace 23 = .ok (.ineg, 1) := by decide +kernel
theorem d_Md_findPlace_24 : decode c_Md_findPlace 24 = .ok (.goto 4, 3) := by decide +kernel
theorem d_Md_findPlace_27 : decode c_Md_findPlace 27 = .ok (.iload_n 3, 1) := by decide +kernel
theorem d_Md_findPlace_28 : decode c_Md_findPlace 28 = .ok (.putfield 164, 3) := by decide +kernel
theorem d_Md_findPlace_31 : decode c_Md_findPlace 31 = .ok (.aload_n 0, 1) := by decide +kernel
theorem d_Md_findPlace_32 : decode c_Md_findPlace 32 = .ok (.iload_n 3, 1) := by decide +kernel
theorem d_Md_findPlace_33 : decode c_Md_findPlace 33 = .ok (.iload 4, 2) := by decide +kernel
theorem d_Md_findPlace_35 : decode c_Md_findPlace 35 = .ok (.if_icmp .ge 10, 3) := by decide +kernel
theorem d_Md_findPlace_38 : decode c_Md_findPlace 38 = .ok (.iload 4, 2) := by decide +kernel
theorem d_Md_findPlace_40 : decode c_Md_findPlace 40 = .ok (.iload_n 3, 1) := by decide +kernel
theorem d_Md_findPlace_41 : decode c_Md_findPlace 41 = .ok (.isub, 1) := by decide +kernel
theorem d_Md_findPlace_42 : decode c_Md_findPlace 42 = .ok (.goto 7, 3) := by decide +kernel
theorem d_Md_findPlace_45 : decode c_Md_findPlace 45 = .ok (.iload_n 3, 1) := by decide +kernel
theorem d_Md_findPlace_46 : decode c_Md_findPlace 46 = .ok (.iload 4, 2) := by decide +kernel
theorem d_Md_findPlace_48 : decode c_Md_findPlace 48 = .ok (.isub, 1) := by decide +kernel
theorem d_Md_findPlace_49 : decode c_Md_findPlace 49 = .ok (.putfield 167, 3) := by decide +kernel
theorem d_Md_findPlace_52 : decode c_Md_findPlace 52 = .ok (.return_, 1) := by decide +kernel
theorem d_Md_shareOf_0 : decode c_Md_shareOf 0 = .ok (.lload_n 0, 1) := by decide +kernel
theorem d_Md_shareOf_1 : decode c_Md_shareOf 1 = .ok (.lconst 0, 1) := by decide +kernel
theorem d_Md_shareOf_2 : decode c_Md_shareOf 2 = .ok (.lcmp, 1) := by decide +kernel
theorem d_Md_shareOf_3 : decode c_Md_shareOf 3 = .ok (.ifCond .ge 8, 3) := by decide +kernel
theorem d_Md_shareOf_6 : decode c_Md_shareOf 6 = .ok (.lload_n 0, 1) := by decide +kernel
theorem d_Md_shareOf_7 : decode c_Md_shareOf 7 = .ok (.lneg, 1) := by decide +kernel
theorem d_Md_shareOf_8 : decode c_Md_shareOf 8 = .ok (.goto 4, 3) := by decide +kernel
theorem d_Md_shareOf_11 : decode c_Md_shareOf 11 = .ok (.lload_n 0, 1) := by decide +kernel
theorem d_Md_shareOf_12 : decode c_Md_shareOf 12 = .ok (.lstore 5, 2) := by decide +kernel
theorem d_Md_shareOf_14 : decode c_Md_shareOf 14 = .ok (.lload_n 2, 1) := by decide +kernel
theorem d_Md_shareOf_15 : decode c_Md_shareOf 15 = .ok (.lstore 7, 2) := by decide +kernel
theorem d_Md_shareOf_17 : decode c_Md_shareOf 17 = .ok (.lload 7, 2) := by decide +kernel
theorem d_Md_shareOf_19 : decode c_Md_shareOf 19 = .ok (.lconst 0, 1) := by decide +kernel
theorem d_Md_shareOf_20 : decode c_Md_shareOf 20 = .ok (.lcmp, 1) := by decide +kernel
theorem d_Md_shareOf_21 : decode c_Md_shareOf 21 = .ok (.ifCond .eq 21, 3) := by decide +kernel
theorem d_Md_shareOf_24 : decode c_Md_shareOf 24 = .ok (.lload 5, 2) := by decide +kernel
theorem d_Md_shareOf_26 : decode c_Md_shareOf 26 = .ok (.lload 7, 2) := by decide +kernel
theorem d_Md_shareOf_28 : decode c_Md_shareOf 28 = .ok (.lrem, 1) := by decide +kernel
theorem d_Md_shareOf_29 : decode c_Md_shareOf 29 = .ok (.lstore 9, 2) := by decide +kernel
theorem d_Md_shareOf_31 : decode c_Md_shareOf 31 = .ok (.lload 7, 2) := by decide +kernel
theorem d_Md_shareOf_33 : decode c_Md_shareOf 33 = .ok (.lstore 5, 2) := by decide +kernel
theorem d_Md_shareOf_35 : decode c_Md_shareOf 35 = .ok (.lload 9, 2) := by decide +kernel
theorem d_Md_shareOf_37 : decode c_Md_shareOf 37 = .ok (.lstore 7, 2) := by decide +kernel
theorem d_Md_shareOf_39 : decode c_Md_shareOf 39 = .ok (.goto (-22), 3) := by decide +kernel
theorem d_Md_shareOf_42 : decode c_Md_shareOf 42 = .ok (.iload 4, 2) := by decide +kernel
theorem d_Md_shareOf_44 : decode c_Md_shareOf 44 = .ok (.ifCond .ne 7, 3) := by decide +kernel
theorem d_Md_shareOf_47 : decode c_Md_shareOf 47 = .ok (.lload_n 0, 1) := by decide +kernel
theorem d_Md_shareOf_48 : decode c_Md_shareOf 48 = .ok (.goto 4, 3) := by decide +kernel
theorem d_Md_shareOf_51 : decode c_Md_shareOf 51 = .ok (.lload_n 2, 1) := by decide +kernel
theorem d_Md_shareOf_52 : decode c_Md_shareOf 52 = .ok (.lload 5, 2) := by decide +kernel
theorem d_Md_shareOf_54 : decode c_Md_shareOf 54 = .ok (.ldiv, 1) := by decide +kernel
theorem d_Md_shareOf_55 : decode c_Md_shareOf 55 = .ok (.lreturn, 1) := by decide +kernel
theorem d_Md_crossingOf_0 : decode c_Md_crossingOf 0 = .ok (.aload_n 0, 1) := by decide +kernel
theorem d_Md_crossingOf_1 : decode c_Md_crossingOf 1 = .ok (.iload_n 1, 1) := by decide +kernel
theorem d_Md_crossingOf_2 : decode c_Md_crossingOf 2 = .ok (.iload_n 2, 1) := by decide +kernel
theorem d_Md_crossingOf_3 : decode c_Md_crossingOf 3 = .ok (.invokevirtual 154, 3) := by decide +kernel
theorem d_Md_crossingOf_6 : decode c_Md_crossingOf 6 = .ok (.ifCond .ne 9, 3) := by decide +kernel
theorem d_Md_crossingOf_9 : decode c_Md_crossingOf 9 = .ok (.bipush (-3), 2) := by decide +kernel
theorem d_Md_crossingOf_11 : decode c_Md_crossingOf 11 = .ok (.invokestatic 170, 3) := by decide +kernel
theorem d_Md_crossingOf_14 : decode c_Md_crossingOf 14 = .ok (.lreturn, 1) := by decide +kernel
theorem d_Md_crossingOf_15 : decode c_Md_crossingOf 15 = .ok (.aload_n 0, 1) := by decide +kernel
theorem d_Md_crossingOf_16 : decode c_Md_crossingOf 16 = .ok (.iload_n 1, 1) := by decide +kernel
theorem d_Md_crossingOf_17 : decode c_Md_crossingOf 17 = .ok (.iload_n 2, 1) := by decide +kernel
theorem d_Md_crossingOf_18 : decode c_Md_crossingOf 18 = .ok (.invokevirtual 174, 3) := by decide +kernel
theorem d_Md_crossingOf_21 : decode c_Md_crossingOf 21 = .ok (.aload_n 0, 1) := by decide +kernel
theorem d_Md_crossingOf_22 : decode c_Md_crossingOf 22 = .ok (.getfield 28, 3) := by decide +kernel
theorem d_Md_crossingOf_25 : decode c_Md_crossingOf 25 = .ok (.bipush 6, 2) := by decide +kernel
theorem d_Md_crossingOf_27 : decode c_Md_crossingOf 27 = .ok (.iload_n 1, 1) := by decide +kernel
theorem d_Md_crossingOf_28 : decode c_Md_crossingOf 28 = .ok (.imul, 1) := by decide +kernel
theorem d_Md_crossingOf_29 : decode c_Md_crossingOf 29 = .ok (.iconst 1, 1) := by decide +kernel
theorem d_Md_crossingOf_30 : decode c_Md_crossingOf 30 = .ok (.iadd, 1) := by decide +kernel
theorem d_Md_crossingOf_31 : decode c_Md_crossingOf 31 = .ok (.iaload, 1) := by decide +kernel
theorem d_Md_crossingOf_32 : decode c_Md_crossingOf 32 = .ok (.aload_n 0, 1) := by decide +kernel
theorem d_Md_crossingOf_33 : decode c_Md_crossingOf 33 = .ok (.getfield 28, 3) := by decide +kernel
theorem d_Md_crossingOf_36 : decode c_Md_crossingOf 36 = .ok (.bipush 6, 2) := by decide +kernel
theorem d_Md_crossingOf_38 : decode c_Md_crossingOf 38 = .ok (.iload_n 1, 1) := by decide +kernel
theorem d_Md_crossingOf_39 : decode c_Md_crossingOf 39 = .ok (.imul, 1) := by decide +kernel
theorem d_Md_crossingOf_40 : decode c_Md_crossingOf 40 = .ok (.iaload, 1) := by decide +kernel
theorem d_Md_crossingOf_41 : decode c_Md_crossingOf 41 = .ok (.isub, 1) := by decide +kernel
theorem d_Md_crossingOf_42 : decode c_Md_crossingOf 42 = .ok (.istore 5, 2) := by decide +kernel
theorem d_Md_crossingOf_44 : decode c_Md_crossingOf 44 = .ok (.iload_n 3, 1) := by decide +kernel
theorem d_Md_crossingOf_45 : decode c_Md_crossingOf 45 = .ok (.ifCond .ne 11, 3) := by decide +kernel
theorem d_Md_crossingOf_48 : decode c_Md_crossingOf 48 = .ok (.aload_n 0, 1) := by decide +kernel
theorem d_Md_crossingOf_49 : decode c_Md_crossingOf 49 = .ok (.getfield 164, 3) := by decide +kernel
theorem d_Md_crossingOf_52 : decode c_Md_crossingOf 52 = .ok (.i2l, 1) := by decide +kernel
theorem d_Md_crossingOf_53 : decode c_Md_crossingOf 53 = .ok (.goto 26, 3) := by decide +kernel
theorem d_Md_crossingOf_56 : decode c_Md_crossingOf 56 = .ok (.aload_n 0, 1) := by decide +kernel
theorem d_Md_crossingOf_57 : decode c_Md_crossingOf 57 = .ok (.getfield 28, 3) := by decide +kernel
theorem d_Md_crossingOf_60 : decode c_Md_crossingOf 60 = .ok (.bipush 6, 2) := by decide +kernel
theorem d_Md_crossingOf_62 : decode c_Md_crossingOf 62 = .ok (.iload_n 1, 1) := by decide +kernel
theorem d_Md_crossingOf_63 : decode c_Md_crossingOf 63 = .ok (.imul, 1) := by decide +kernel
theorem d_Md_crossingOf_64 : decode c_Md_crossingOf 64 = .ok (.iaload, 1) := by decide +kernel
theorem d_Md_crossingOf_65 : decode c_Md_crossingOf 65 = .ok (.aload_n 0, 1) := by decide +kernel
theorem d_Md_crossingOf_66 : decode c_Md_crossingOf 66 = .ok (.getfield 167, 3) := by decide +kernel
theorem d_Md_crossingOf_69 : decode c_Md_crossingOf 69 = .ok (.imul, 1) := by decide +kernel
theorem d_Md_crossingOf_70 : decode c_Md_crossingOf 70 = .ok (.iload 5, 2) := by decide +kernel
theorem d_Md_crossingOf_72 : decode c_Md_crossingOf 72 = .ok (.aload_n 0, 1) := by decide +kernel
theorem d_Md_crossingOf_73 : decode c_Md_crossingOf 73 = .ok (.getfield 164, 3) := by decide +kernel
theorem d_Md_crossingOf_76 : decode c_Md_crossingOf 76 = .ok (.imul, 1) := by decide +kernel
theorem d_Md_crossingOf_77 : decode c_Md_crossingOf 77 = .ok (.iadd, 1) := by decide +kernel
theorem d_Md_crossingOf_78 : decode c_Md_crossingOf 78 = .ok (.i2l, 1) := by decide +kernel
theorem d_Md_crossingOf_79 : decode c_Md_crossingOf 79 = .ok (.aload_n 0, 1) := by decide +kernel
theorem d_Md_crossingOf_80 : decode c_Md_crossingOf 80 = .ok (.getfield 167, 3) := by decide +kernel
theorem d_Md_crossingOf_83 : decode c_Md_crossingOf 83 = .ok (.i2l, 1) := by decide +kernel
theorem d_Md_crossingOf_84 : decode c_Md_crossingOf 84 = .ok (.iload 4, 2) := by decide +kernel
theorem d_Md_crossingOf_86 : decode c_Md_crossingOf 86 = .ok (.invokestatic 178, 3) := by decide +kernel
theorem d_Md_crossingOf_89 : decode c_Md_crossingOf 89 = .ok (.lreturn, 1) := by decide +kernel
theorem d_Md_crossing_0 : decode c_Md_crossing 0 = .ok (.aload_n 0, 1) := by decide +kernel
theorem d_Md_crossing_1 : decode c_Md_crossing 1 = .ok (.iload_n 1, 1) := by decide +kernel
theorem d_Md_crossing_2 : decode c_Md_crossing 2 = .ok (.iload_n 2, 1) := by decide +kernel
theorem d_Md_crossing_3 : decode c_Md_crossing 3 = .ok (.invokevirtual 158, 3) := by decide +kernel
theorem d_Md_crossing_6 : decode c_Md_crossing 6 = .ok (.ifCond .eq 30, 3) := by decide +kernel
theorem d_Md_crossing_9 : decode c_Md_crossing 9 = .ok (.iload_n 3, 1) := by decide +kernel
theorem d_Md_crossing_10 : decode c_Md_crossing 10 = .ok (.invokestatic 106, 3) := by decide +kernel
theorem d_Md_crossing_13 : decode c_Md_crossing 13 = .ok (.ifCond .eq 23, 3) := by decide +kernel
theorem d_Md_crossing_16 : decode c_Md_crossing 16 = .ok (.iload 4, 2) := by decide +kernel
theorem d_Md_crossing_18 : decode c_Md_crossing 18 = .ok (.invokestatic 106, 3) := by decide +kernel
theorem d_Md_crossing_21 : decode c_Md_crossing 21 = .ok (.ifCond .eq 15, 3) := by decide +kernel
theorem d_Md_crossing_24 : decode c_Md_crossing 24 = .ok (.aload_n 0, 1) := by decide +kernel
theorem d_Md_crossing_25 : decode c_Md_crossing 25 = .ok (.iload_n 1, 1) := by decide +kernel
theorem d_Md_crossing_26 : decode c_Md_crossing 26 = .ok (.iload_n 2, 1) := by decide +kernel
theorem d_Md_crossing_27 : decode c_Md_crossing 27 = .ok (.iload_n 3, 1) := by decide +kernel
theorem d_Md_crossing_28 : decode c_Md_crossing 28 = .ok (.iload 4, 2) := by decide +kernel
theorem d_Md_crossing_30 : decode c_Md_crossing 30 = .ok (.invokevirtual 182, 3) := by decide +kernel
theorem d_Md_crossing_33 : decode c_Md_crossing 33 = .ok (.goto 8, 3) := by decide +kernel
theorem d_Md_crossing_36 : decode c_Md_crossing 36 = .ok (.bipush (-2), 2) := by decide +kernel
theorem d_Md_crossing_38 : decode c_Md_crossing 38 = .ok (.invokestatic 170, 3) := by decide +kernel
theorem d_Md_crossing_41 : decode c_Md_crossing 41 = .ok (.lreturn, 1) := by decide +kernel
theorem d_Md_isFigure_0 : decode c_Md_isFigure 0 = .ok (.iload_n 0, 1) := by decide +kernel
theorem d_Md_isFigure_1 : decode c_Md_isFigure 1 = .ok (.i2l, 1) := by decide +kernel
theorem d_Md_isFigure_2 : decode c_Md_isFigure 2 = .ok (.lconst 0, 1) := by decide +kernel
theorem d_Md_isFigure_3 : decode c_Md_isFigure 3 = .ok (.ldc2_w 77, 3) := by decide +kernel
theorem d_Md_isFigure_6 : decode c_Md_isFigure 6 = .ok (.invokestatic 73, 3) := by decide +kernel
theorem d_Md_isFigure_9 : decode c_Md_isFigure 9 = .ok (.ireturn, 1) := by decide +kernel
theorem d_Md_rises_0 : decode c_Md_rises 0 = .ok (.aload_n 0, 1) := by decide +kernel
theorem d_Md_rises_1 : decode c_Md_rises 1 = .ok (.getfield 28, 3) := by decide +kernel
theorem d_Md_rises_4 : decode c_Md_rises 4 = .ok (.bipush 6, 2) := by decide +kernel
theorem d_Md_rises_6 : decode c_Md_rises 6 = .ok (.iload_n 1, 1) := by decide +kernel
theorem d_Md_rises_7 : decode c_Md_rises 7 = .ok (.imul, 1) := by decide +kernel
theorem d_Md_rises_8 : decode c_Md_rises 8 = .ok (.iconst 1, 1) := by decide +kernel
theorem d_Md_rises_9 : decode c_Md_rises 9 = .ok (.iadd, 1) := by decide +kernel
theorem d_Md_rises_10 : decode c_Md_rises 10 = .ok (.iload_n 2, 1) := by decide +kernel
theorem d_Md_rises_11 : decode c_Md_rises 11 = .ok (.isub, 1) := by decide +kernel
theorem d_Md_rises_12 : decode c_Md_rises 12 = .ok (.iaload, 1) := by decide +kernel
theorem d_Md_rises_13 : decode c_Md_rises 13 = .ok (.aload_n 0, 1) := by decide +kernel
theorem d_Md_rises_14 : decode c_Md_rises 14 = .ok (.getfield 28, 3) := by decide +kernel
theorem d_Md_rises_17 : decode c_Md_rises 17 = .ok (.bipush 6, 2) := by decide +kernel
theorem d_Md_rises_19 : decode c_Md_rises 19 = .ok (.iload_n 1, 1) := by decide +kernel
theorem d_Md_rises_20 : decode c_Md_rises 20 = .ok (.imul, 1) := by decide +kernel
theorem d_Md_rises_21 : decode c_Md_rises 21 = .ok (.iload_n 2, 1) := by decide +kernel
theorem d_Md_rises_22 : decode c_Md_rises 22 = .ok (.iadd, 1) := by decide +kernel
theorem d_Md_rises_23 : decode c_Md_rises 23 = .ok (.iaload, 1) := by decide +kernel
theorem d_Md_rises_24 : decode c_Md_rises 24 = .ok (.isub, 1) := by decide +kernel
theorem d_Md_rises_25 : decode c_Md_rises 25 = .ok (.istore_n 3, 1) := by decide +kernel
theorem d_Md_rises_26 : decode c_Md_rises 26 = .ok (.iload_n 3, 1) := by decide +kernel
theorem d_Md_rises_27 : decode c_Md_rises 27 = .ok (.ifCond .ge 7, 3) := by decide +kernel
theorem d_Md_rises_30 : decode c_Md_rises 30 = .ok (.iconst 0, 1) := by decide +kernel
theorem d_Md_rises_31 : decode c_Md_rises 31 = .ok (.goto 4, 3) := by decide +kernel
theorem d_Md_rises_34 : decode c_Md_rises 34 = .ok (.iload_n 3, 1) := by decide +kernel
theorem d_Md_rises_35 : decode c_Md_rises 35 = .ok (.ireturn, 1) := by decide +kernel
theorem d_Md_costs_0 : decode c_Md_costs 0 = .ok (.aload_n 0, 1) := by decide +kernel
theorem d_Md_costs_1 : decode c_Md_costs 1 = .ok (.getfield 28, 3) := by decide +kernel
theorem d_Md_costs_4 : decode c_Md_costs 4 = .ok (.bipush 6, 2) := by decide +kernel
theorem d_Md_costs_6 : decode c_Md_costs 6 = .ok (.iload_n 1, 1) := by decide +kernel
theorem d_Md_costs_7 : decode c_Md_costs 7 = .ok (.imul, 1) := by decide +kernel
theorem d_Md_costs_8 : decode c_Md_costs 8 = .ok (.iconst 4, 1) := by decide +kernel
theorem d_Md_costs_9 : decode c_Md_costs 9 = .ok (.iadd, 1) := by decide +kernel
theorem d_Md_costs_10 : decode c_Md_costs 10 = .ok (.iaload, 1) := by decide +kernel
theorem d_Md_costs_11 : decode c_Md_costs 11 = .ok (.iload_n 3, 1) := by decide +kernel
theorem d_Md_costs_12 : decode c_Md_costs 12 = .ok (.iconst 1, 1) := by decide +kernel
theorem d_Md_costs_13 : decode c_Md_costs 13 = .ok (.iadd, 1) := by decide +kernel
theorem d_Md_costs_14 : decode c_Md_costs 14 = .ok (.imul, 1) := by decide +kernel
theorem d_Md_costs_15 : decode c_Md_costs 15 = .ok (.aload_n 0, 1) := by decide +kernel
theorem d_Md_costs_16 : decode c_Md_costs 16 = .ok (.iload_n 1, 1) := by decide +kernel
theorem d_Md_costs_17 : decode c_Md_costs 17 = .ok (.iload_n 2, 1) := by decide +kernel
theorem d_Md_costs_18 : decode c_Md_costs 18 = .ok (.invokevirtual 186, 3) := by decide +kernel
theorem d_Md_costs_21 : decode c_Md_costs 21 = .ok (.iadd, 1) := by decide +kernel
theorem d_Md_costs_22 : decode c_Md_costs 22 = .ok (.ireturn, 1) := by decide +kernel
theorem d_Md_minutes_0 : decode c_Md_minutes 0 = .ok (.bipush 12, 2) := by decide +kernel
theorem d_Md_minutes_2 : decode c_Md_minutes 2 = .ok (.iconst 2, 1) := by decide +kernel
theorem d_Md_minutes_3 : decode c_Md_minutes 3 = .ok (.aload_n 0, 1) := by decide +kernel
theorem d_Md_minutes_4 : decode c_Md_minutes 4 = .ok (.iload_n 1, 1) := by decide +kernel
theorem d_Md_minutes_5 : decode c_Md_minutes 5 = .ok (.iload_n 2, 1) := by decide +kernel
theorem d_Md_minutes_6 : decode c_Md_minutes 6 = .ok (.invokevirtual 186, 3) := by decide +kernel
theorem d_Md_minutes_9 : decode c_Md_minutes 9 = .ok (.imul, 1) := by decide +kernel
theorem d_Md_minutes_10 : decode c_Md_minutes 10 = .ok (.iadd, 1) := by decide +kernel
theorem d_Md_minutes_11 : decode c_Md_minutes 11 = .ok (.ireturn, 1) := by decide +kernel
theorem d_Md_takes_0 : decode c_Md_takes 0 = .ok (.aload_n 0, 1) := by decide +kernel
theorem d_Md_takes_1 : decode c_Md_takes 1 = .ok (.iload_n 1, 1) := by decide +kernel
theorem d_Md_takes_2 : decode c_Md_takes 2 = .ok (.invokevirtual 143, 3) := by decide +kernel
theorem d_Md_takes_5 : decode c_Md_takes 5 = .ok (.ifCond .eq 25, 3) := by decide +kernel
theorem d_Md_takes_8 : decode c_Md_takes 8 = .ok (.iload_n 2, 1) := by decide +kernel
theorem d_Md_takes_9 : decode c_Md_takes 9 = .ok (.invokestatic 106, 3) := by decide +kernel
theorem d_Md_takes_12 : decode c_Md_takes 12 = .ok (.ifCond .eq 18, 3) := by decide +kernel
theorem d_Md_takes_15 : decode c_Md_takes 15 = .ok (.iload_n 3, 1) := by decide +kernel
theorem d_Md_takes_16 : decode c_Md_takes 16 = .ok (.invokestatic 189, 3) := by decide +kernel
theorem d_Md_takes_19 : decode c_Md_takes 19 = .ok (.ifCond .eq 11, 3) := by decide +kernel
theorem d_Md_takes_22 : decode c_Md_takes 22 = .ok (.iload 4, 2) := by decide +kernel
theorem d_Md_takes_24 : decode c_Md_takes 24 = .ok (.invokestatic 106, 3) := by decide +kernel
theorem d_Md_takes_27 : decode c_Md_takes 27 = .ok (.ifCond .ne 6, 3) := by decide +kernel
theorem d_Md_takes_30 : decode c_Md_takes 30 = .ok (.bipush (-2), 2) := by decide +kernel
theorem d_Md_takes_32 : decode c_Md_takes 32 = .ok (.ireturn, 1) := by decide +kernel
theorem d_Md_takes_33 : decode c_Md_takes 33 = .ok (.iload 4, 2) := by decide +kernel
theorem d_Md_takes_35 : decode c_Md_takes 35 = .ok (.ifCond .ne 12, 3) := by decide +kernel
theorem d_Md_takes_38 : decode c_Md_takes 38 = .ok (.aload_n 0, 1) := by decide +kernel
theorem d_Md_takes_39 : decode c_Md_takes 39 = .ok (.iload_n 1, 1) := by decide +kernel
theorem d_Md_takes_40 : decode c_Md_takes 40 = .ok (.iload_n 2, 1) := by decide +kernel
theorem d_Md_takes_41 : decode c_Md_takes 41 = .ok (.invokevirtual 192, 3) := by decide +kernel
theorem d_Md_takes_44 : decode c_Md_takes 44 = .ok (.goto 10, 3) := by decide +kernel
theorem d_Md_takes_47 : decode c_Md_takes 47 = .ok (.aload_n 0, 1) := by decide +kernel
theorem d_Md_takes_48 : decode c_Md_takes 48 = .ok (.iload_n 1, 1) := by decide +kernel
theorem d_Md_takes_49 : decode c_Md_takes 49 = .ok (.iload_n 2, 1) := by decide +kernel
theorem d_Md_takes_50 : decode c_Md_takes 50 = .ok (.iload_n 3, 1) := by decide +kernel
theorem d_Md_takes_51 : decode c_Md_takes 51 = .ok (.invokevirtual 195, 3) := by decide +kernel
theorem d_Md_takes_54 : decode c_Md_takes 54 = .ok (.ireturn, 1) := by decide +kernel
theorem d_Md_set_0 : decode c_Md_set 0 = .ok (.iload_n 1, 1) := by decide +kernel
theorem d_Md_set_1 : decode c_Md_set 1 = .ok (.i2l, 1) := by decide +kernel
theorem d_Md_set_2 : decode c_Md_set 2 = .ok (.lconst 0, 1) := by decide +kernel
theorem d_Md_set_3 : decode c_Md_set 3 = .ok (.ldc2_w 91, 3) := by decide +kernel
theorem d_Md_set_6 : decode c_Md_set 6 = .ok (.invokestatic 73, 3) := by decide +kernel
theorem d_Md_set_9 : decode c_Md_set 9 = .ok (.ifCond .eq 45, 3) := by decide +kernel
theorem d_Md_set_12 : decode c_Md_set 12 = .ok (.iload_n 2, 1) := by decide +kernel
theorem d_Md_set_13 : decode c_Md_set 13 = .ok (.i2l, 1) := by decide +kernel
theorem d_Md_set_14 : decode c_Md_set 14 = .ok (.iload_n 1, 1) := by decide +kernel
theorem d_Md_set_15 : decode c_Md_set 15 = .ok (.iconst 2, 1) := by decide +kernel
theorem d_Md_set_16 : decode c_Md_set 16 = .ok (.if_icmp .ne 7, 3) := by decide +kernel
theorem d_Md_set_19 : decode c_Md_set 19 = .ok (.lconst 0, 1) := by decide +kernel
theorem d_Md_set_20 : decode c_Md_set 20 = .ok (.goto 4, 3) := by decide +kernel
theorem d_Md_set_23 : decode c_Md_set 23 = .ok (.lconst 1, 1) := by decide +kernel
theorem d_Md_set_24 : decode c_Md_set 24 = .ok (.iload_n 1, 1) := by decide +kernel
theorem d_Md_set_25 : decode c_Md_set 25 = .ok (.ifCond .ne 9, 3) := by decide +kernel
theorem d_Md_set_28 : decode c_Md_set 28 = .ok (.ldc2_w 77, 3) := by decide +kernel
theorem d_Md_set_31 : decode c_Md_set 31 = .ok (.goto 17, 3) := by decide +kernel
theorem d_Md_set_34 : decode c_Md_set 34 = .ok (.iload_n 1, 1) := by decide +kernel
theorem d_Md_set_35 : decode c_Md_set 35 = .ok (.iconst 1, 1) := by decide +kernel
theorem d_Md_set_36 : decode c_Md_set 36 = .ok (.if_icmp .ne 9, 3) := by decide +kernel
theorem d_Md_set_39 : decode c_Md_set 39 = .ok (.ldc2_w 198, 3) := by decide +kernel
theorem d_Md_set_42 : decode c_Md_set 42 = .ok (.goto 6, 3) := by decide +kernel
theorem d_Md_set_45 : decode c_Md_set 45 = .ok (.ldc2_w 200, 3) := by decide +kernel
theorem d_Md_set_48 : decode c_Md_set 48 = .ok (.invokestatic 73, 3) := by decide +kernel
theorem d_Md_set_51 : decode c_Md_set 51 = .ok (.ifCond .ne 6, 3) := by decide +kernel
theorem d_Md_set_54 : decode c_Md_set 54 = .ok (.bipush (-2), 2) := by decide +kernel
theorem d_Md_set_56 : decode c_Md_set 56 = .ok (.ireturn, 1) := by decide +kernel
theorem d_Md_set_57 : decode c_Md_set 57 = .ok (.aload_n 0, 1) := by decide +kernel
theorem d_Md_set_58 : decode c_Md_set 58 = .ok (.getfield 34, 3) := by decide +kernel
theorem d_Md_set_61 : decode c_Md_set 61 = .ok (.iload_n 1, 1) := by decide +kernel
theorem d_Md_set_62 : decode c_Md_set 62 = .ok (.iaload, 1) := by decide +kernel
theorem d_Md_set_63 : decode c_Md_set 63 = .ok (.istore_n 3, 1) := by decide +kernel
theorem d_Md_set_64 : decode c_Md_set 64 = .ok (.aload_n 0, 1) := by decide +kernel
theorem d_Md_set_65 : decode c_Md_set 65 = .ok (.getfield 34, 3) := by decide +kernel
theorem d_Md_set_68 : decode c_Md_set 68 = .ok (.iload_n 1, 1) := by decide +kernel
theorem d_Md_set_69 : decode c_Md_set 69 = .ok (.iload_n 2, 1) := by decide +kernel
theorem d_Md_set_70 : decode c_Md_set 70 = .ok (.iastore, 1) := by decide +kernel
theorem d_Md_set_71 : decode c_Md_set 71 = .ok (.iload_n 3, 1) := by decide +kernel
theorem d_Md_set_72 : decode c_Md_set 72 = .ok (.ireturn, 1) := by decide +kernel
theorem d_Md_isOwner_0 : decode c_Md_isOwner 0 = .ok (.iload_n 0, 1) := by decide +kernel
theorem d_Md_isOwner_1 : decode c_Md_isOwner 1 = .ok (.i2l, 1) := by decide +kernel
theorem d_Md_isOwner_2 : decode c_Md_isOwner 2 = .ok (.lconst 0, 1) := by decide +kernel
theorem d_Md_isOwner_3 : decode c_Md_isOwner 3 = .ok (.ldc2_w 79, 3) := by decide +kernel
theorem d_Md_isOwner_6 : decode c_Md_isOwner 6 = .ok (.invokestatic 73, 3) := by decide +kernel
theorem d_Md_isOwner_9 : decode c_Md_isOwner 9 = .ok (.ireturn, 1) := by decide +kernel
def f_Md_crosses (σ : Sg) (v1 : Int32) (v2 : Int32) (v3 : Int32) : Option (Int32 × Sg) :=
  bd (f_Md_areTwo σ v1 v2) fun r3 σ2 =>
    if r3 = 0 then
      some ((-2), σ2)
    else
      if (f_Md_isTwo v3) = 0 then
        some ((-2), σ2)
      else
        if v3 = 1 then
          (f_Md_crossesWith σ2 v1).bind fun r11 =>
            some (r11, σ2)
        else
          (f_Md_doCross σ2 v1 v2).bind fun r8 =>
            if r8 = 0 then some (0, σ2) else some (1, σ2)
set_option maxHeartbeats 4000000 in
theorem j_Md_crosses {V : Vx} {X : Xx} {r : Int32} {σ' : Sg} (σ : Sg) (v1 : Int32) (v2 : Int32) (v3 : Int32) (hf : f_Md_crosses σ v1 v2 v3 = some (r, σ')) : J V X (k2_rm 6 134) c_Md_crosses R_Md 4 (some .int) (Qr V X (some (.int r)) σ') σ 0 [(0, rf V 66), (1, .int v1), (2, .int v2), (3, .int v3)] [] := by
  unfold f_Md_crosses at hf
  refine J_aload_n (pc' := 1) d_Md_crosses_0 rfl 0 rfl ?_
  refine J_iload_n (pc' := 2) d_Md_crosses_1 rfl 1 rfl ?_
  refine J_iload_n (pc' := 3) d_Md_crosses_2 rfl 2 rfl ?_
  obtain ⟨r3, σ2, hq1, hf⟩ := bdE hf
  refine J_V (pc' := 6) (as := [.int v1, .int v2]) (rest := []) (st' := [.int r3]) d_Md_crosses_3 rfl sh_66 rfl mv_Md_158 (ct_Md_areTwo V _ σ v1 v2 hq1) rfl rfl ⟨Nat.le_of_ble_eq_true rfl, Nat.le_of_ble_eq_true rfl⟩ ⟨rfl, rfl⟩ (Nat.le_of_ble_eq_true rfl) rfl ?_
  refine J_if_eq (pc' := 9) (tgt := 16) d_Md_crosses_6 rfl (by decide) (fun hc4 => ?_) (fun hc4 => ?_)
  · have hf := brT hc4 hf
    refine J_bipush (pc' := 18) (v := (-2)) d_Md_crosses_16 rfl bc_m2 ?_
    obtain ⟨rfl, rfl⟩ := resE hf
    exact J_iret d_Md_crosses_18
  · have hf := brF hc4 hf
    refine J_iload_n (pc' := 10) d_Md_crosses_9 rfl 3 rfl ?_
    refine J_S (pc' := 13) (as := [.int v3]) (rest := []) (st' := [.int (f_Md_isTwo v3)]) d_Md_crosses_10 rfl ms_Md_106 (ct_Md_isTwo V _ σ2 v3) rfl rfl ⟨Nat.le_of_ble_eq_true rfl, Nat.le_of_ble_eq_true rfl⟩ ⟨rfl, rfl⟩ (Nat.le_of_ble_eq_true rfl) rfl ?_
    refine J_if_ne (pc' := 16) (tgt := 19) d_Md_crosses_13 rfl (by decide) (fun hc5 => ?_) (fun hc5 => ?_)
    · have hf := brF hc5 hf
      refine J_iload_n (pc' := 20) d_Md_crosses_19 rfl 3 rfl ?_
      refine J_iconst (pc' := 21) (v := 1) d_Md_crosses_20 rfl ic_1 ?_
      refine J_icmp_ne (pc' := 24) (tgt := 32) d_Md_crosses_21 rfl (by decide) (fun hc6 => ?_) (fun hc6 => ?_)
      · have hf := brF hc6 hf
        refine J_aload_n (pc' := 33) d_Md_crosses_32 rfl 0 rfl ?_
        refine J_iload_n (pc' := 34) d_Md_crosses_33 rfl 1 rfl ?_
        refine J_iload_n (pc' := 35) d_Md_crosses_34 rfl 2 rfl ?_
        obtain ⟨r8, hq7, hf⟩ := bpE hf
        refine J_V (pc' := 38) (as := [.int v1, .int v2]) (rest := []) (st' := [.int r8]) d_Md_crosses_35 rfl sh_66 rfl mv_Md_154 (ct_Md_doCross V _ σ2 v1 v2 hq7) rfl rfl ⟨Nat.le_of_ble_eq_true rfl, Nat.le_of_ble_eq_true rfl⟩ ⟨rfl, rfl⟩ (Nat.le_of_ble_eq_true rfl) rfl ?_
        refine J_if_eq (pc' := 41) (tgt := 45) d_Md_crosses_38 rfl (by decide) (fun hc9 => ?_) (fun hc9 => ?_)
        · have hf := brT hc9 hf
          refine J_iconst (pc' := 46) (v := 0) d_Md_crosses_45 rfl ic_0 ?_
          obtain ⟨rfl, rfl⟩ := resE hf
          exact J_iret d_Md_crosses_46
        · have hf := brF hc9 hf
          refine J_iconst (pc' := 42) (v := 1) d_Md_crosses_41 rfl ic_1 ?_
          refine J_goto (tgt := 46) d_Md_crosses_42 (by decide) ?_
          obtain ⟨rfl, rfl⟩ := resE hf
          exact J_iret d_Md_crosses_46
      · have hf := brT hc6 hf
        refine J_aload_n (pc' := 25) d_Md_crosses_24 rfl 0 rfl ?_
        refine J_iload_n (pc' := 26) d_Md_crosses_25 rfl 1 rfl ?_
        obtain ⟨r11, hq10, hf⟩ := bpE hf
        refine J_V (pc' := 29) (as := [.int v1]) (rest := []) (st' := [.int r11]) d_Md_crosses_26 rfl sh_66 rfl mv_Md_161 (ct_Md_crossesWith V _ σ2 v1 hq10) rfl rfl ⟨Nat.le_of_ble_eq_true rfl, Nat.le_of_ble_eq_true rfl⟩ ⟨rfl, rfl⟩ (Nat.le_of_ble_eq_true rfl) rfl ?_
        refine J_goto (tgt := 46) d_Md_crosses_29 (by decide) ?_
        obtain ⟨rfl, rfl⟩ := resE hf
        exact J_iret d_Md_crosses_46
    · have hf := brT hc5 hf
      refine J_bipush (pc' := 18) (v := (-2)) d_Md_crosses_16 rfl bc_m2 ?_
      obtain ⟨rfl, rfl⟩ := resE hf
      exact J_iret d_Md_crosses_18
theorem ct_Md_crosses (V : Vx) (l : Launch) (σ : Sg) (v1 : Int32) (v2 : Int32) (v3 : Int32) {r : Int32} {σ' : Sg} (hf : f_Md_crosses σ v1 v2 v3 = some (r, σ')) : Ct V l y_Md_crosses c_Md_crosses 4 (some .int) (k2_rm 6 134) [rf V 66, .int v1, .int v2, .int v3] σ (some (.int r)) σ' := Ct.ofJ (by decide +kernel) (Nat.le_of_ble_eq_true rfl) fun X _ => j_Md_crosses _ v1 v2 v3 hf
def f_Md_no (v0 : Int32) : Int64 :=
  (-9223372036854775808) - v0.toInt64
set_option maxHeartbeats 4000000 in
theorem j_Md_no {V : Vx} {X : Xx} {r : Int64} (σ : Sg) (v0 : Int32) (hf : f_Md_no v0 = r) : J V X (k2_rm 0 0) c_Md_no R_Md 1 (some .long) (Qr V X (some (.long r)) σ) σ 0 [(0, .int v0)] [] := by
  unfold f_Md_no at hf
  refine J_ldc2 (pc' := 3) (v := (-9223372036854775808)) d_Md_no_0 rfl cw_Md_71 ?_
  refine J_iload_n (pc' := 4) d_Md_no_3 rfl 0 rfl ?_
  refine J_i2l (pc' := 5) d_Md_no_4 rfl ?_
  refine J_lsub (pc' := 6) d_Md_no_5 rfl ?_
  subst hf
  exact J_lret d_Md_no_6
theorem ct_Md_no (V : Vx) (l : Launch) (σ : Sg) (v0 : Int32) : Ct V l y_Md_no c_Md_no 1 (some .long) (k2_rm 0 0) [.int v0] σ (some (.long (f_Md_no v0))) σ := Ct.ofJ (by decide +kernel) (Nat.le_of_ble_eq_true rfl) fun X _ => j_Md_no _ v0 rfl
def f_Md_findPlace_28 (σ : Sg) (v3 : Int32) (v4 : Int32) (s0 : Int32) : Option Sg :=
  if v4 ≤ v3 then some (pI (pI σ 66 12 s0) 66 13 (v3 - v4)) else some (pI (pI σ 66 12 s0) 66 13 (v4 - v3))
set_option maxHeartbeats 4000000 in
theorem j_Md_findPlace_28 {V : Vx} {X : Xx} {σ' : Sg}  (σ : Sg) (v3 : Int32) (v4 : Int32) (s0 : Int32) (hf : f_Md_findPlace_28 σ v3 v4 s0 = some σ') : J V X (k2_rm 1 23) c_Md_findPlace R_Md 5 none (Qr V X none σ') σ 28 [(0, rf V 66), (3, .int v3), (4, .int v4)] [.int s0, rf V 66] := by
  unfold f_Md_findPlace_28 at hf
  refine J_putI (pc' := 31) d_Md_findPlace_28 rfl sh_66 fp_Md_164 rfl ?_
  refine J_aload_n (pc' := 32) d_Md_findPlace_31 rfl 0 rfl ?_
  refine J_iload_n (pc' := 33) d_Md_findPlace_32 rfl 1 rfl ?_
  refine J_iload (pc' := 35) d_Md_findPlace_33 rfl 2 rfl ?_
  refine J_icmp_ge (pc' := 38) (tgt := 45) d_Md_findPlace_35 rfl (by decide) (fun hc6 => ?_) (fun hc6 => ?_)
  · have hf := brT hc6 hf
    refine J_iload_n (pc' := 46) d_Md_findPlace_45 rfl 1 rfl ?_
    refine J_iload (pc' := 48) d_Md_findPlace_46 rfl 2 rfl ?_
    refine J_isub (pc' := 49) d_Md_findPlace_48 rfl ?_
    refine J_putI (pc' := 52) d_Md_findPlace_49 rfl sh_66 fp_Md_167 rfl ?_
    obtain rfl := Option.some.inj hf
    exact J_vret d_Md_findPlace_52
  · have hf := brF hc6 hf
    refine J_iload (pc' := 40) d_Md_findPlace_38 rfl 2 rfl ?_
    refine J_iload_n (pc' := 41) d_Md_findPlace_40 rfl 1 rfl ?_
    refine J_isub (pc' := 42) d_Md_findPlace_41 rfl ?_
    refine J_goto (tgt := 49) d_Md_findPlace_42 (by decide) ?_
    refine J_putI (pc' := 52) d_Md_findPlace_49 rfl sh_66 fp_Md_167 rfl ?_
    obtain rfl := Option.some.inj hf
    exact J_vret d_Md_findPlace_52
def f_Md_findPlace (σ : Sg) (v1 : Int32) (v2 : Int32) : Option Sg :=
  (f_Md_above σ v1 v2 0).bind fun r2 =>
    (f_Md_above σ v1 v2 1).bind fun r4 =>
      if 0 ≤ r2 then f_Md_findPlace_28 σ r2 r4 r2 else f_Md_findPlace_28 σ r2 r4 (-r2)
set_option maxHeartbeats 4000000 in
theorem j_Md_findPlace {V : Vx} {X : Xx} {σ' : Sg} (σ : Sg) (v1 : Int32) (v2 : Int32) (hf : f_Md_findPlace σ v1 v2 = some σ') : J V X (k2_rm 1 23) c_Md_findPlace R_Md 5 none (Qr V X none σ') σ 0 [(0, rf V 66), (1, .int v1), (2, .int v2)] [] := by
  unfold f_Md_findPlace at hf
  refine J_aload_n (pc' := 1) d_Md_findPlace_0 rfl 0 rfl ?_
  refine J_iload_n (pc' := 2) d_Md_findPlace_1 rfl 1 rfl ?_
  refine J_iload_n (pc' := 3) d_Md_findPlace_2 rfl 2 rfl ?_
  refine J_iconst (pc' := 4) (v := 0) d_Md_findPlace_3 rfl ic_0 ?_
  obtain ⟨r2, hq1, hf⟩ := bpE hf
  refine J_V (pc' := 7) (as := [.int v1, .int v2, .int 0]) (rest := []) (st' := [.int r2]) d_Md_findPlace_4 rfl sh_66 rfl mv_Md_151 (ct_Md_above V _ σ v1 v2 0 hq1) rfl rfl ⟨Nat.le_of_ble_eq_true rfl, Nat.le_of_ble_eq_true rfl⟩ ⟨rfl, rfl⟩ (Nat.le_of_ble_eq_true rfl) rfl ?_
  refine J_istore_n (pc' := 8) (lv' := [(3, .int r2), (0, rf V 66), (1, .int v1), (2, .int v2)]) d_Md_findPlace_7 rfl rfl (by decide) rfl ?_
  refine J_aload_n (pc' := 9) d_Md_findPlace_8 rfl 1 rfl ?_
  refine J_iload_n (pc' := 10) d_Md_findPlace_9 rfl 2 rfl ?_
  refine J_iload_n (pc' := 11) d_Md_findPlace_10 rfl 3 rfl ?_
  refine J_iconst (pc' := 12) (v := 1) d_Md_findPlace_11 rfl ic_1 ?_
  obtain ⟨r4, hq3, hf⟩ := bpE hf
  refine J_V (pc' := 15) (as := [.int v1, .int v2, .int 1]) (rest := []) (st' := [.int r4]) d_Md_findPlace_12 rfl sh_66 rfl mv_Md_151 (ct_Md_above V _ σ v1 v2 1 hq3) rfl rfl ⟨Nat.le_of_ble_eq_true rfl, Nat.le_of_ble_eq_true rfl⟩ ⟨rfl, rfl⟩ (Nat.le_of_ble_eq_true rfl) rfl ?_
  refine J_istore (pc' := 17) (lv' := [(4, .int r4), (3, .int r2), (0, rf V 66), (1, .int v1), (2, .int v2)]) d_Md_findPlace_15 rfl (by decide) rfl ?_
  refine J_aload_n (pc' := 18) d_Md_findPlace_17 rfl 2 rfl ?_
  refine J_iload_n (pc' := 19) d_Md_findPlace_18 rfl 1 rfl ?_
  refine J_if_ge (pc' := 22) (tgt := 27) d_Md_findPlace_19 rfl (by decide) (fun hc5 => ?_) (fun hc5 => ?_)
  · have hf := brT hc5 hf
    refine J_iload_n (pc' := 28) d_Md_findPlace_27 rfl 1 rfl ?_
    refine J_pick [2, 1, 0] rfl ?_
    exact j_Md_findPlace_28 _ _ _ _ hf
  · have hf := brF hc5 hf
    refine J_iload_n (pc' := 23) d_Md_findPlace_22 rfl 1 rfl ?_
    refine J_ineg (pc' := 24) d_Md_findPlace_23 rfl ?_
    refine J_goto (tgt := 28) d_Md_findPlace_24 (by decide) ?_
    refine J_pick [2, 1, 0] rfl ?_
    exact j_Md_findPlace_28 _ _ _ _ hf
theorem ct_Md_findPlace (V : Vx) (l : Launch) (σ : Sg) (v1 : Int32) (v2 : Int32) {σ' : Sg} (hf : f_Md_findPlace σ v1 v2 = some σ') : Ct V l y_Md_findPlace c_Md_findPlace 5 none (k2_rm 1 23) [rf V 66, .int v1, .int v2] σ none σ' := Ct.ofJ (by decide +kernel) (Nat.le_of_ble_eq_true rfl) fun X _ => j_Md_findPlace _ v1 v2 hf
def f_Md_shareOf_17 : Nat → Int64 → Int64 → Int32 → Int64 → Int64 → Option Int64
  | 0, _, _, _, _, _ => none
  | n + 1, v0, v2, v4, v5, v7 =>
    if (lg_cmp v7 0) = 0 then
      if v4 = 0 then
        gd (decide (¬ v5 = 0)) (
          some (v0 / v5))
      else
        gd (decide (¬ v5 = 0)) (
          some (v2 / v5))
    else
      gd (decide (¬ v7 = 0)) (
        f_Md_shareOf_17 n v0 v2 v4 v7 (v5 - v5 / v7 * v7))
theorem f_Md_shareOf_17_s (n : Nat) (v0 : Int64) (v2 : Int64) (v4 : Int32) (v5 : Int64) (v7 : Int64) : f_Md_shareOf_17 (n + 1) v0 v2 v4 v5 v7 =
    if (lg_cmp v7 0) = 0 then
      if v4 = 0 then
        gd (decide (¬ v5 = 0)) (
          some (v0 / v5))
      else
        gd (decide (¬ v5 = 0)) (
          some (v2 / v5))
    else
      gd (decide (¬ v7 = 0)) (
        f_Md_shareOf_17 n v0 v2 v4 v7 (v5 - v5 / v7 * v7)) := rfl
set_option maxHeartbeats 4000000 in
theorem j_Md_shareOf_17 {V : Vx} {X : Xx} {σ : Sg} {r : Int64}  : ∀ (n : Nat) (v0 : Int64) (v2 : Int64) (v4 : Int32) (v5 : Int64) (v7 : Int64), f_Md_shareOf_17 n v0 v2 v4 v5 v7 = some r → J V X (k2_rm 0 0) c_Md_shareOf R_Md 11 (some .long) (Qr V X (some (.long r)) σ) σ 17 [(0, .long v0), (2, .long v2), (4, .int v4), (5, .long v5), (7, .long v7)] [] := by
  intro n
  induction n with
  | zero => intro v0 v2 v4 v5 v7 hf; exact nn hf
  | succ n ih =>
    intro v0 v2 v4 v5 v7 hf
    rw [f_Md_shareOf_17_s] at hf
    refine J_lload (pc' := 19) d_Md_shareOf_17 rfl 4 rfl ?_
    refine J_lconst (pc' := 20) (v := 0) d_Md_shareOf_19 rfl lc_0 ?_
    refine J_lcmp (pc' := 21) d_Md_shareOf_20 rfl ?_
    refine J_if_eq (pc' := 24) (tgt := 42) d_Md_shareOf_21 rfl (by decide) (fun hc2 => ?_) (fun hc2 => ?_)
    · have hf := brT hc2 hf
      refine J_iload (pc' := 44) d_Md_shareOf_42 rfl 2 rfl ?_
      refine J_if_ne (pc' := 47) (tgt := 51) d_Md_shareOf_44 rfl (by decide) (fun hc3 => ?_) (fun hc3 => ?_)
      · have hf := brF hc3 hf
        refine J_lload_n (pc' := 52) d_Md_shareOf_51 rfl 1 rfl ?_
        refine J_lload (pc' := 54) d_Md_shareOf_52 rfl 3 rfl ?_
        obtain ⟨hg4, hf⟩ := gdE hf
        refine J_ldiv (pc' := 55) d_Md_shareOf_54 rfl (of_decide_eq_true hg4) ?_
        obtain rfl := Option.some.inj hf
        exact J_lret d_Md_shareOf_55
      · have hf := brT hc3 hf
        refine J_lload_n (pc' := 48) d_Md_shareOf_47 rfl 0 rfl ?_
        refine J_goto (tgt := 52) d_Md_shareOf_48 (by decide) ?_
        refine J_lload (pc' := 54) d_Md_shareOf_52 rfl 3 rfl ?_
        obtain ⟨hg5, hf⟩ := gdE hf
        refine J_ldiv (pc' := 55) d_Md_shareOf_54 rfl (of_decide_eq_true hg5) ?_
        obtain rfl := Option.some.inj hf
        exact J_lret d_Md_shareOf_55
    · have hf := brF hc2 hf
      refine J_lload (pc' := 26) d_Md_shareOf_24 rfl 3 rfl ?_
      refine J_lload (pc' := 28) d_Md_shareOf_26 rfl 4 rfl ?_
      obtain ⟨hg6, hf⟩ := gdE hf
      refine J_lrem (pc' := 29) d_Md_shareOf_28 rfl (of_decide_eq_true hg6) ?_
      refine J_lstore (pc' := 31) (lv' := [(9, .long (v5 - v5 / v7 * v7)), (0, .long v0), (2, .long v2), (4, .int v4), (5, .long v5), (7, .long v7)]) d_Md_shareOf_29 rfl (by decide) rfl ?_
      refine J_lload (pc' := 33) d_Md_shareOf_31 rfl 5 rfl ?_
      refine J_lstore (pc' := 35) (lv' := [(5, .long v7), (9, .long (v5 - v5 / v7 * v7)), (0, .long v0), (2, .long v2), (4, .int v4), (7, .long v7)]) d_Md_shareOf_33 rfl (by decide) rfl ?_
      refine J_lload (pc' := 37) d_Md_shareOf_35 rfl 1 rfl ?_
      refine J_lstore (pc' := 39) (lv' := [(7, .long (v5 - v5 / v7 * v7)), (5, .long v7), (9, .long (v5 - v5 / v7 * v7)), (0, .long v0), (2, .long v2), (4, .int v4)]) d_Md_shareOf_37 rfl (by decide) rfl ?_
      refine J_goto (tgt := 17) d_Md_shareOf_39 (by decide) ?_
      refine J_pick [3, 4, 5, 1, 0] rfl ?_
      exact ih _ _ _ _ _ hf
def f_Md_shareOf_12 (v0 : Int64) (v2 : Int64) (v4 : Int32) (s0 : Int64) : Option Int64 :=
  f_Md_shareOf_17 FU v0 v2 v4 s0 v2
set_option maxHeartbeats 4000000 in
theorem j_Md_shareOf_12 {V : Vx} {X : Xx} {σ : Sg} {r : Int64}  (v0 : Int64) (v2 : Int64) (v4 : Int32) (s0 : Int64) (hf : f_Md_shareOf_12 v0 v2 v4 s0 = some r) : J V X (k2_rm 0 0) c_Md_shareOf R_Md 11 (some .long) (Qr V X (some (.long r)) σ) σ 12 [(0, .long v0), (2, .long v2), (4, .int v4)] [.long s0] := by
  unfold f_Md_shareOf_12 at hf
  refine J_lstore (pc' := 14) (lv' := [(5, .long s0), (0, .long v0), (2, .long v2), (4, .int v4)]) d_Md_shareOf_12 rfl (by decide) rfl ?_
  refine J_lload_n (pc' := 15) d_Md_shareOf_14 rfl 2 rfl ?_
  refine J_lstore (pc' := 17) (lv' := [(7, .long v2), (5, .long s0), (0, .long v0), (2, .long v2), (4, .int v4)]) d_Md_shareOf_15 rfl (by decide) rfl ?_
  refine J_pick [2, 3, 4, 1, 0] rfl ?_
  exact j_Md_shareOf_17 FU _ _ _ _ _ hf
def f_Md_shareOf (v0 : Int64) (v2 : Int64) (v4 : Int32) : Option Int64 :=
  if 0 ≤ (lg_cmp v0 0) then f_Md_shareOf_12 v0 v2 v4 v0 else f_Md_shareOf_12 v0 v2 v4 (-v0)
set_option maxHeartbeats 4000000 in
theorem j_Md_shareOf {V : Vx} {X : Xx} {r : Int64} (σ : Sg) (v0 : Int64) (v2 : Int64) (v4 : Int32) (hf : f_Md_shareOf v0 v2 v4 = some r) : J V X (k2_rm 0 0) c_Md_shareOf R_Md 11 (some .long) (Qr V X (some (.long r)) σ) σ 0 [(0, .long v0), (2, .long v2), (4, .int v4)] [] := by
  unfold f_Md_shareOf at hf
  refine J_lload_n (pc' := 1) d_Md_shareOf_0 rfl 0 rfl ?_
  refine J_lconst (pc' := 2) (v := 0) d_Md_shareOf_1 rfl lc_0 ?_
  refine J_lcmp (pc' := 3) d_Md_shareOf_2 rfl ?_
  refine J_if_ge (pc' := 6) (tgt := 11) d_Md_shareOf_3 rfl (by decide) (fun hc1 => ?_) (fun hc1 => ?_)
  · have hf := brT hc1 hf
    refine J_lload_n (pc' := 12) d_Md_shareOf_11 rfl 0 rfl ?_
    exact j_Md_shareOf_12 _ _ _ _ hf
  · have hf := brF hc1 hf
    refine J_lload_n (pc' := 7) d_Md_shareOf_6 rfl 0 rfl ?_
    refine J_lneg (pc' := 8) d_Md_shareOf_7 rfl ?_
    refine J_goto (tgt := 12) d_Md_shareOf_8 (by decide) ?_
    exact j_Md_shareOf_12 _ _ _ _ hf
theorem ct_Md_shareOf (V : Vx) (l : Launch) (σ : Sg) (v0 : Int64) (v2 : Int64) (v4 : Int32) {r : Int64} (hf : f_Md_shareOf v0 v2 v4 = some r) : Ct V l y_Md_shareOf c_Md_shareOf 11 (some .long) (k2_rm 0 0) [.long v0, .long v2, .int v4] σ (some (.long r)) σ := Ct.ofJ (by decide +kernel) (Nat.le_of_ble_eq_true rfl) fun X _ => j_Md_shareOf _ v0 v2 v4 hf
def f_Md_crossingOf_79 (σ : Sg) (v4 : Int32) (s0 : Int64) : Option (Int64 × Sg) :=
  (f_Md_shareOf s0 ((σ.1 66 13).toInt64) v4).bind fun r11 =>
    some (r11, σ)
set_option maxHeartbeats 4000000 in
theorem j_Md_crossingOf_79 {V : Vx} {X : Xx} {r : Int64} {σ' : Sg}  (σ : Sg) (v4 : Int32) (s0 : Int64) (hf : f_Md_crossingOf_79 σ v4 s0 = some (r, σ')) : J V X (k2_rm 2 47) c_Md_crossingOf R_Md 6 (some .long) (Qr V X (some (.long r)) σ') σ 79 [(0, rf V 66), (4, .int v4)] [.long s0] := by
  unfold f_Md_crossingOf_79 at hf
  refine J_aload_n (pc' := 80) d_Md_crossingOf_79 rfl 0 rfl ?_
  refine J_getI (pc' := 83) d_Md_crossingOf_80 rfl sh_66 fl_Md_167 rfl ?_
  refine J_i2l (pc' := 84) d_Md_crossingOf_83 rfl ?_
  refine J_iload (pc' := 86) d_Md_crossingOf_84 rfl 1 rfl ?_
  obtain ⟨r11, hq10, hf⟩ := bpE hf
  refine J_S (pc' := 89) (as := [.long s0, .long ((σ.1 66 13).toInt64), .int v4]) (rest := []) (st' := [.long r11]) d_Md_crossingOf_86 rfl ms_Md_178 (ct_Md_shareOf V _ σ s0 ((σ.1 66 13).toInt64) v4 hq10) rfl rfl ⟨Nat.le_of_ble_eq_true rfl, Nat.le_of_ble_eq_true rfl⟩ ⟨rfl, rfl⟩ (Nat.le_of_ble_eq_true rfl) rfl ?_
  obtain ⟨rfl, rfl⟩ := resE hf
  exact J_lret d_Md_crossingOf_89
def f_Md_crossingOf (σ : Sg) (v1 : Int32) (v2 : Int32) (v3 : Int32) (v4 : Int32) : Option (Int64 × Sg) :=
  (f_Md_doCross σ v1 v2).bind fun r2 =>
    if r2 = 0 then
      some (f_Md_no (-3), σ)
    else
      (f_Md_findPlace σ v1 v2).bind fun σ5 =>
        gd (vin ((6 * v1) + 1) 54) (
          gd (vin (6 * v1) 54) (
            if v3 = 0 then
              f_Md_crossingOf_79 σ5 v4 ((σ5.1 66 12).toInt64)
            else
              gd (vin (6 * v1) 54) (
                f_Md_crossingOf_79 σ5 v4 ((((σ5.1 73 (6 * v1).toNatClampNeg) * (σ5.1 66 13)) + (((σ5.1 73 ((6 * v1) + 1).toNatClampNeg) - (σ5.1 73 (6 * v1).toNatClampNeg)) * (σ5.1 66 12))).toInt64))))
set_option maxHeartbeats 4000000 in
theorem j_Md_crossingOf {V : Vx} {X : Xx} {r : Int64} {σ' : Sg} (σ : Sg) (v1 : Int32) (v2 : Int32) (v3 : Int32) (v4 : Int32) (hf : f_Md_crossingOf σ v1 v2 v3 v4 = some (r, σ')) : J V X (k2_rm 2 47) c_Md_crossingOf R_Md 6 (some .long) (Qr V X (some (.long r)) σ') σ 0 [(0, rf V 66), (1, .int v1), (2, .int v2), (3, .int v3), (4, .int v4)] [] := by
  unfold f_Md_crossingOf at hf
  refine J_aload_n (pc' := 1) d_Md_crossingOf_0 rfl 0 rfl ?_
  refine J_iload_n (pc' := 2) d_Md_crossingOf_1 rfl 1 rfl ?_
  refine J_iload_n (pc' := 3) d_Md_crossingOf_2 rfl 2 rfl ?_
  obtain ⟨r2, hq1, hf⟩ := bpE hf
  refine J_V (pc' := 6) (as := [.int v1, .int v2]) (rest := []) (st' := [.int r2]) d_Md_crossingOf_3 rfl sh_66 rfl mv_Md_154 (ct_Md_doCross V _ σ v1 v2 hq1) rfl rfl ⟨Nat.le_of_ble_eq_true rfl, Nat.le_of_ble_eq_true rfl⟩ ⟨rfl, rfl⟩ (Nat.le_of_ble_eq_true rfl) rfl ?_
  refine J_if_ne (pc' := 9) (tgt := 15) d_Md_crossingOf_6 rfl (by decide) (fun hc3 => ?_) (fun hc3 => ?_)
  · have hf := brF hc3 hf
    refine J_aload_n (pc' := 16) d_Md_crossingOf_15 rfl 0 rfl ?_
    refine J_iload_n (pc' := 17) d_Md_crossingOf_16 rfl 1 rfl ?_
    refine J_iload_n (pc' := 18) d_Md_crossingOf_17 rfl 2 rfl ?_
    obtain ⟨σ5, hq4, hf⟩ := bpE hf
    refine J_V (pc' := 21) (as := [.int v1, .int v2]) (rest := []) (st' := []) d_Md_crossingOf_18 rfl sh_66 rfl mv_Md_174 (ct_Md_findPlace V _ σ v1 v2 hq4) rfl rfl ⟨Nat.le_of_ble_eq_true rfl, Nat.le_of_ble_eq_true rfl⟩ ⟨rfl, rfl⟩ (Nat.le_of_ble_eq_true rfl) rfl ?_
    refine J_aload_n (pc' := 22) d_Md_crossingOf_21 rfl 0 rfl ?_
    refine J_getR (pc' := 25) d_Md_crossingOf_22 rfl sh_66 fl_Md_28 rfl ?_
    refine J_bipush (pc' := 27) (v := 6) d_Md_crossingOf_25 rfl bc_6 ?_
    refine J_iload_n (pc' := 28) d_Md_crossingOf_27 rfl 1 rfl ?_
    refine J_imul (pc' := 29) d_Md_crossingOf_28 rfl ?_
    refine J_iconst (pc' := 30) (v := 1) d_Md_crossingOf_29 rfl ic_1 ?_
    refine J_iadd (pc' := 31) d_Md_crossingOf_30 rfl ?_
    obtain ⟨hg6, hf⟩ := gdE hf
    refine J_ial (pc' := 32) d_Md_crossingOf_31 rfl sh_73 (vinP hg6) ?_
    refine J_aload_n (pc' := 33) d_Md_crossingOf_32 rfl 0 rfl ?_
    refine J_getR (pc' := 36) d_Md_crossingOf_33 rfl sh_66 fl_Md_28 rfl ?_
    refine J_bipush (pc' := 38) (v := 6) d_Md_crossingOf_36 rfl bc_6 ?_
    refine J_iload_n (pc' := 39) d_Md_crossingOf_38 rfl 1 rfl ?_
    refine J_imul (pc' := 40) d_Md_crossingOf_39 rfl ?_
    obtain ⟨hg7, hf⟩ := gdE hf
    refine J_ial (pc' := 41) d_Md_crossingOf_40 rfl sh_73 (vinP hg7) ?_
    refine J_isub (pc' := 42) d_Md_crossingOf_41 rfl ?_
    refine J_istore (pc' := 44) (lv' := [(5, .int ((σ5.1 73 ((6 * v1) + 1).toNatClampNeg) - (σ5.1 73 (6 * v1).toNatClampNeg))), (0, rf V 66), (1, .int v1), (2, .int v2), (3, .int v3), (4, .int v4)]) d_Md_crossingOf_42 rfl (by decide) rfl ?_
    refine J_iload_n (pc' := 45) d_Md_crossingOf_44 rfl 4 rfl ?_
    refine J_if_ne (pc' := 48) (tgt := 56) d_Md_crossingOf_45 rfl (by decide) (fun hc8 => ?_) (fun hc8 => ?_)
    · have hf := brF hc8 hf
      refine J_aload_n (pc' := 57) d_Md_crossingOf_56 rfl 1 rfl ?_
      refine J_getR (pc' := 60) d_Md_crossingOf_57 rfl sh_66 fl_Md_28 rfl ?_
      refine J_bipush (pc' := 62) (v := 6) d_Md_crossingOf_60 rfl bc_6 ?_
      refine J_iload_n (pc' := 63) d_Md_crossingOf_62 rfl 2 rfl ?_
      refine J_imul (pc' := 64) d_Md_crossingOf_63 rfl ?_
      obtain ⟨hg9, hf⟩ := gdE hf
      refine J_ial (pc' := 65) d_Md_crossingOf_64 rfl sh_73 (vinP hg9) ?_
      refine J_aload_n (pc' := 66) d_Md_crossingOf_65 rfl 1 rfl ?_
      refine J_getI (pc' := 69) d_Md_crossingOf_66 rfl sh_66 fl_Md_167 rfl ?_
      refine J_imul (pc' := 70) d_Md_crossingOf_69 rfl ?_
      refine J_iload (pc' := 72) d_Md_crossingOf_70 rfl 0 rfl ?_
      refine J_aload_n (pc' := 73) d_Md_crossingOf_72 rfl 1 rfl ?_
      refine J_getI (pc' := 76) d_Md_crossingOf_73 rfl sh_66 fl_Md_164 rfl ?_
      refine J_imul (pc' := 77) d_Md_crossingOf_76 rfl ?_
      refine J_iadd (pc' := 78) d_Md_crossingOf_77 rfl ?_
      refine J_i2l (pc' := 79) d_Md_crossingOf_78 rfl ?_
      refine J_pick [1, 5] rfl ?_
      exact j_Md_crossingOf_79 _ _ _ hf
    · have hf := brT hc8 hf
      refine J_aload_n (pc' := 49) d_Md_crossingOf_48 rfl 1 rfl ?_
      refine J_getI (pc' := 52) d_Md_crossingOf_49 rfl sh_66 fl_Md_164 rfl ?_
      refine J_i2l (pc' := 53) d_Md_crossingOf_52 rfl ?_
      refine J_goto (tgt := 79) d_Md_crossingOf_53 (by decide) ?_
      refine J_pick [1, 5] rfl ?_
      exact j_Md_crossingOf_79 _ _ _ hf
  · have hf := brT hc3 hf
    refine J_bipush (pc' := 11) (v := (-3)) d_Md_crossingOf_9 rfl bc_m3 ?_
    refine J_S (pc' := 14) (as := [.int (-3)]) (rest := []) (st' := [.long (f_Md_no (-3))]) d_Md_crossingOf_11 rfl ms_Md_170 (ct_Md_no V _ σ (-3)) rfl rfl ⟨Nat.le_of_ble_eq_true rfl, Nat.le_of_ble_eq_true rfl⟩ ⟨rfl, rfl⟩ (Nat.le_of_ble_eq_true rfl) rfl ?_
    obtain ⟨rfl, rfl⟩ := resE hf
    exact J_lret d_Md_crossingOf_14
theorem ct_Md_crossingOf (V : Vx) (l : Launch) (σ : Sg) (v1 : Int32) (v2 : Int32) (v3 : Int32) (v4 : Int32) {r : Int64} {σ' : Sg} (hf : f_Md_crossingOf σ v1 v2 v3 v4 = some (r, σ')) : Ct V l y_Md_crossingOf c_Md_crossingOf 6 (some .long) (k2_rm 2 47) [rf V 66, .int v1, .int v2, .int v3, .int v4] σ (some (.long r)) σ' := Ct.ofJ (by decide +kernel) (Nat.le_of_ble_eq_true rfl) fun X _ => j_Md_crossingOf _ v1 v2 v3 v4 hf
def f_Md_crossing_36 (σ : Sg)  : Option (Int64 × Sg) :=
  some (f_Md_no (-2), σ)
set_option maxHeartbeats 4000000 in
theorem j_Md_crossing_36 {V : Vx} {X : Xx} {r : Int64} {σ' : Sg}  (σ : Sg) (hf : f_Md_crossing_36 σ = some (r, σ')) : J V X (k2_rm 6 134) c_Md_crossing R_Md 5 (some .long) (Qr V X (some (.long r)) σ') σ 36 [] [] := by
  unfold f_Md_crossing_36 at hf
  refine J_bipush (pc' := 38) (v := (-2)) d_Md_crossing_36 rfl bc_m2 ?_
  refine J_S (pc' := 41) (as := [.int (-2)]) (rest := []) (st' := [.long (f_Md_no (-2))]) d_Md_crossing_38 rfl ms_Md_170 (ct_Md_no V _ σ (-2)) rfl rfl ⟨Nat.le_of_ble_eq_true rfl, Nat.le_of_ble_eq_true rfl⟩ ⟨rfl, rfl⟩ (Nat.le_of_ble_eq_true rfl) rfl ?_
  obtain ⟨rfl, rfl⟩ := resE hf
  exact J_lret d_Md_crossing_41
def f_Md_crossing (σ : Sg) (v1 : Int32) (v2 : Int32) (v3 : Int32) (v4 : Int32) : Option (Int64 × Sg) :=
  bd (f_Md_areTwo σ v1 v2) fun r3 σ2 =>
    if r3 = 0 then
      f_Md_crossing_36 σ2
    else
      if (f_Md_isTwo v3) = 0 then
        f_Md_crossing_36 σ2
      else
        if (f_Md_isTwo v4) = 0 then
          f_Md_crossing_36 σ2
        else
          bd (f_Md_crossingOf σ2 v1 v2 v3 v4) fun r9 σ8 =>
            some (r9, σ8)
set_option maxHeartbeats 4000000 in
theorem j_Md_crossing {V : Vx} {X : Xx} {r : Int64} {σ' : Sg} (σ : Sg) (v1 : Int32) (v2 : Int32) (v3 : Int32) (v4 : Int32) (hf : f_Md_crossing σ v1 v2 v3 v4 = some (r, σ')) : J V X (k2_rm 6 134) c_Md_crossing R_Md 5 (some .long) (Qr V X (some (.long r)) σ') σ 0 [(0, rf V 66), (1, .int v1), (2, .int v2), (3, .int v3), (4, .int v4)] [] := by
  unfold f_Md_crossing at hf
  refine J_aload_n (pc' := 1) d_Md_crossing_0 rfl 0 rfl ?_
  refine J_iload_n (pc' := 2) d_Md_crossing_1 rfl 1 rfl ?_
  refine J_iload_n (pc' := 3) d_Md_crossing_2 rfl 2 rfl ?_
  obtain ⟨r3, σ2, hq1, hf⟩ := bdE hf
  refine J_V (pc' := 6) (as := [.int v1, .int v2]) (rest := []) (st' := [.int r3]) d_Md_crossing_3 rfl sh_66 rfl mv_Md_158 (ct_Md_areTwo V _ σ v1 v2 hq1) rfl rfl ⟨Nat.le_of_ble_eq_true rfl, Nat.le_of_ble_eq_true rfl⟩ ⟨rfl, rfl⟩ (Nat.le_of_ble_eq_true rfl) rfl ?_
  refine J_if_eq (pc' := 9) (tgt := 36) d_Md_crossing_6 rfl (by decide) (fun hc4 => ?_) (fun hc4 => ?_)
  · have hf := brT hc4 hf
    refine J_pick [] rfl ?_
    exact j_Md_crossing_36 _ hf
  · have hf := brF hc4 hf
    refine J_iload_n (pc' := 10) d_Md_crossing_9 rfl 3 rfl ?_
    refine J_S (pc' := 13) (as := [.int v3]) (rest := []) (st' := [.int (f_Md_isTwo v3)]) d_Md_crossing_10 rfl ms_Md_106 (ct_Md_isTwo V _ σ2 v3) rfl rfl ⟨Nat.le_of_ble_eq_true rfl, Nat.le_of_ble_eq_true rfl⟩ ⟨rfl, rfl⟩ (Nat.le_of_ble_eq_true rfl) rfl ?_
    refine J_if_eq (pc' := 16) (tgt := 36) d_Md_crossing_13 rfl (by decide) (fun hc5 => ?_) (fun hc5 => ?_)
    · have hf := brT hc5 hf
      refine J_pick [] rfl ?_
      exact j_Md_crossing_36 _ hf
    · have hf := brF hc5 hf
      refine J_iload (pc' := 18) d_Md_crossing_16 rfl 4 rfl ?_
      refine J_S (pc' := 21) (as := [.int v4]) (rest := []) (st' := [.int (f_Md_isTwo v4)]) d_Md_crossing_18 rfl ms_Md_106 (ct_Md_isTwo V _ σ2 v4) rfl rfl ⟨Nat.le_of_ble_eq_true rfl, Nat.le_of_ble_eq_true rfl⟩ ⟨rfl, rfl⟩ (Nat.le_of_ble_eq_true rfl) rfl ?_
      refine J_if_eq (pc' := 24) (tgt := 36) d_Md_crossing_21 rfl (by decide) (fun hc6 => ?_) (fun hc6 => ?_)
      · have hf := brT hc6 hf
        refine J_pick [] rfl ?_
        exact j_Md_crossing_36 _ hf
      · have hf := brF hc6 hf
        refine J_aload_n (pc' := 25) d_Md_crossing_24 rfl 0 rfl ?_
        refine J_iload_n (pc' := 26) d_Md_crossing_25 rfl 1 rfl ?_
        refine J_iload_n (pc' := 27) d_Md_crossing_26 rfl 2 rfl ?_
        refine J_iload_n (pc' := 28) d_Md_crossing_27 rfl 3 rfl ?_
        refine J_iload (pc' := 30) d_Md_crossing_28 rfl 4 rfl ?_
        obtain ⟨r9, σ8, hq7, hf⟩ := bdE hf
        refine J_V (pc' := 33) (as := [.int v1, .int v2, .int v3, .int v4]) (rest := []) (st' := [.long r9]) d_Md_crossing_30 rfl sh_66 rfl mv_Md_182 (ct_Md_crossingOf V _ σ2 v1 v2 v3 v4 hq7) rfl rfl ⟨Nat.le_of_ble_eq_true rfl, Nat.le_of_ble_eq_true rfl⟩ ⟨rfl, rfl⟩ (Nat.le_of_ble_eq_true rfl) rfl ?_
        refine J_goto (tgt := 41) d_Md_crossing_33 (by decide) ?_
        obtain ⟨rfl, rfl⟩ := resE hf
        exact J_lret d_Md_crossing_41
theorem ct_Md_crossing (V : Vx) (l : Launch) (σ : Sg) (v1 : Int32) (v2 : Int32) (v3 : Int32) (v4 : Int32) {r : Int64} {σ' : Sg} (hf : f_Md_crossing σ v1 v2 v3 v4 = some (r, σ')) : Ct V l y_Md_crossing c_Md_crossing 5 (some .long) (k2_rm 6 134) [rf V 66, .int v1, .int v2, .int v3, .int v4] σ (some (.long r)) σ' := Ct.ofJ (by decide +kernel) (Nat.le_of_ble_eq_true rfl) fun X _ => j_Md_crossing _ v1 v2 v3 v4 hf
def f_Md_isFigure (v0 : Int32) : Int32 :=
  zb (f_Md_in v0.toInt64 0 9)
set_option maxHeartbeats 4000000 in
theorem j_Md_isFigure {V : Vx} {X : Xx} {r : Int32} (σ : Sg) (v0 : Int32) (hf : f_Md_isFigure v0 = r) : J V X (k2_rm 1 25) c_Md_isFigure R_Md 1 (some .boolean) (Qr V X (some (.int r)) σ) σ 0 [(0, .int v0)] [] := by
  unfold f_Md_isFigure at hf
  refine J_iload_n (pc' := 1) d_Md_isFigure_0 rfl 0 rfl ?_
  refine J_i2l (pc' := 2) d_Md_isFigure_1 rfl ?_
  refine J_lconst (pc' := 3) (v := 0) d_Md_isFigure_2 rfl lc_0 ?_
  refine J_ldc2 (pc' := 6) (v := 9) d_Md_isFigure_3 rfl cw_Md_77 ?_
  refine J_S (pc' := 9) (as := [.long v0.toInt64, .long 0, .long 9]) (rest := []) (st' := [.int (f_Md_in v0.toInt64 0 9)]) d_Md_isFigure_6 rfl ms_Md_73 (ct_Md_in V _ σ v0.toInt64 0 9) rfl rfl ⟨Nat.le_of_ble_eq_true rfl, Nat.le_of_ble_eq_true rfl⟩ ⟨rfl, rfl⟩ (Nat.le_of_ble_eq_true rfl) rfl ?_
  subst hf
  exact J_zretG d_Md_isFigure_9
theorem ct_Md_isFigure (V : Vx) (l : Launch) (σ : Sg) (v0 : Int32) : Ct V l y_Md_isFigure c_Md_isFigure 1 (some .boolean) (k2_rm 1 25) [.int v0] σ (some (.int (f_Md_isFigure v0))) σ := Ct.ofJ (by decide +kernel) (Nat.le_of_ble_eq_true rfl) fun X _ => j_Md_isFigure _ v0 rfl
def f_Md_rises (σ : Sg) (v1 : Int32) (v2 : Int32) : Option Int32 :=
  gd (vin (((6 * v1) + 1) - v2) 54) (
    gd (vin ((6 * v1) + v2) 54) (
      if 0 ≤ ((σ.1 73 (((6 * v1) + 1) - v2).toNatClampNeg) - (σ.1 73 ((6 * v1) + v2).toNatClampNeg)) then some ((σ.1 73 (((6 * v1) + 1) - v2).toNatClampNeg) - (σ.1 73 ((6 * v1) + v2).toNatClampNeg)) else some 0))
set_option maxHeartbeats 4000000 in
theorem j_Md_rises {V : Vx} {X : Xx} {r : Int32} (σ : Sg) (v1 : Int32) (v2 : Int32) (hf : f_Md_rises σ v1 v2 = some r) : J V X (k2_rm 0 0) c_Md_rises R_Md 4 (some .int) (Qr V X (some (.int r)) σ) σ 0 [(0, rf V 66), (1, .int v1), (2, .int v2)] [] := by
  unfold f_Md_rises at hf
  refine J_aload_n (pc' := 1) d_Md_rises_0 rfl 0 rfl ?_
  refine J_getR (pc' := 4) d_Md_rises_1 rfl sh_66 fl_Md_28 rfl ?_
  refine J_bipush (pc' := 6) (v := 6) d_Md_rises_4 rfl bc_6 ?_
  refine J_iload_n (pc' := 7) d_Md_rises_6 rfl 1 rfl ?_
  refine J_imul (pc' := 8) d_Md_rises_7 rfl ?_
  refine J_iconst (pc' := 9) (v := 1) d_Md_rises_8 rfl ic_1 ?_
  refine J_iadd (pc' := 10) d_Md_rises_9 rfl ?_
  refine J_iload_n (pc' := 11) d_Md_rises_10 rfl 2 rfl ?_
  refine J_isub (pc' := 12) d_Md_rises_11 rfl ?_
  obtain ⟨hg1, hf⟩ := gdE hf
  refine J_ial (pc' := 13) d_Md_rises_12 rfl sh_73 (vinP hg1) ?_
  refine J_aload_n (pc' := 14) d_Md_rises_13 rfl 0 rfl ?_
  refine J_getR (pc' := 17) d_Md_rises_14 rfl sh_66 fl_Md_28 rfl ?_
  refine J_bipush (pc' := 19) (v := 6) d_Md_rises_17 rfl bc_6 ?_
  refine J_iload_n (pc' := 20) d_Md_rises_19 rfl 1 rfl ?_
  refine J_imul (pc' := 21) d_Md_rises_20 rfl ?_
  refine J_iload_n (pc' := 22) d_Md_rises_21 rfl 2 rfl ?_
  refine J_iadd (pc' := 23) d_Md_rises_22 rfl ?_
  obtain ⟨hg2, hf⟩ := gdE hf
  refine J_ial (pc' := 24) d_Md_rises_23 rfl sh_73 (vinP hg2) ?_
  refine J_isub (pc' := 25) d_Md_rises_24 rfl ?_
  refine J_istore_n (pc' := 26) (lv' := [(3, .int ((σ.1 73 (((6 * v1) + 1) - v2).toNatClampNeg) - (σ.1 73 ((6 * v1) + v2).toNatClampNeg))), (0, rf V 66), (1, .int v1), (2, .int v2)]) d_Md_rises_25 rfl rfl (by decide) rfl ?_
  refine J_iload_n (pc' := 27) d_Md_rises_26 rfl 0 rfl ?_
  refine J_if_ge (pc' := 30) (tgt := 34) d_Md_rises_27 rfl (by decide) (fun hc3 => ?_) (fun hc3 => ?_)
  · have hf := brT hc3 hf
    refine J_iload_n (pc' := 35) d_Md_rises_34 rfl 0 rfl ?_
    obtain rfl := Option.some.inj hf
    exact J_iret d_Md_rises_35
  · have hf := brF hc3 hf
    refine J_iconst (pc' := 31) (v := 0) d_Md_rises_30 rfl ic_0 ?_
    refine J_goto (tgt := 35) d_Md_rises_31 (by decide) ?_
    obtain rfl := Option.some.inj hf
    exact J_iret d_Md_rises_35
theorem ct_Md_rises (V : Vx) (l : Launch) (σ : Sg) (v1 : Int32) (v2 : Int32) {r : Int32} (hf : f_Md_rises σ v1 v2 = some r) : Ct V l y_Md_rises c_Md_rises 4 (some .int) (k2_rm 0 0) [rf V 66, .int v1, .int v2] σ (some (.int r)) σ := Ct.ofJ (by decide +kernel) (Nat.le_of_ble_eq_true rfl) fun X _ => j_Md_rises _ v1 v2 hf
def f_Md_costs (σ : Sg) (v1 : Int32) (v2 : Int32) (v3 : Int32) : Option Int32 :=
  gd (vin ((6 * v1) + 4) 54) (
    (f_Md_rises σ v1 v2).bind fun r3 =>
      some (((σ.1 73 ((6 * v1) + 4).toNatClampNeg) * (v3 + 1)) + r3))
set_option maxHeartbeats 4000000 in
theorem j_Md_costs {V : Vx} {X : Xx} {r : Int32} (σ : Sg) (v1 : Int32) (v2 : Int32) (v3 : Int32) (hf : f_Md_costs σ v1 v2 v3 = some r) : J V X (k2_rm 1 23) c_Md_costs R_Md 4 (some .int) (Qr V X (some (.int r)) σ) σ 0 [(0, rf V 66), (1, .int v1), (2, .int v2), (3, .int v3)] [] := by
  unfold f_Md_costs at hf
  refine J_aload_n (pc' := 1) d_Md_costs_0 rfl 0 rfl ?_
  refine J_getR (pc' := 4) d_Md_costs_1 rfl sh_66 fl_Md_28 rfl ?_
  refine J_bipush (pc' := 6) (v := 6) d_Md_costs_4 rfl bc_6 ?_
  refine J_iload_n (pc' := 7) d_Md_costs_6 rfl 1 rfl ?_
  refine J_imul (pc' := 8) d_Md_costs_7 rfl ?_
  refine J_iconst (pc' := 9) (v := 4) d_Md_costs_8 rfl ic_4 ?_
  refine J_iadd (pc' := 10) d_Md_costs_9 rfl ?_
  obtain ⟨hg1, hf⟩ := gdE hf
  refine J_ial (pc' := 11) d_Md_costs_10 rfl sh_73 (vinP hg1) ?_
  refine J_iload_n (pc' := 12) d_Md_costs_11 rfl 3 rfl ?_
  refine J_iconst (pc' := 13) (v := 1) d_Md_costs_12 rfl ic_1 ?_
  refine J_iadd (pc' := 14) d_Md_costs_13 rfl ?_
  refine J_imul (pc' := 15) d_Md_costs_14 rfl ?_
  refine J_aload_n (pc' := 16) d_Md_costs_15 rfl 0 rfl ?_
  refine J_iload_n (pc' := 17) d_Md_costs_16 rfl 1 rfl ?_
  refine J_iload_n (pc' := 18) d_Md_costs_17 rfl 2 rfl ?_
  obtain ⟨r3, hq2, hf⟩ := bpE hf
  refine J_V (pc' := 21) (as := [.int v1, .int v2]) (rest := [.int ((σ.1 73 ((6 * v1) + 4).toNatClampNeg) * (v3 + 1))]) (st' := [.int r3, .int ((σ.1 73 ((6 * v1) + 4).toNatClampNeg) * (v3 + 1))]) d_Md_costs_18 rfl sh_66 rfl mv_Md_186 (ct_Md_rises V _ σ v1 v2 hq2) rfl rfl ⟨Nat.le_of_ble_eq_true rfl, Nat.le_of_ble_eq_true rfl⟩ ⟨rfl, rfl⟩ (Nat.le_of_ble_eq_true rfl) rfl ?_
  refine J_iadd (pc' := 22) d_Md_costs_21 rfl ?_
  obtain rfl := Option.some.inj hf
  exact J_iret d_Md_costs_22
theorem ct_Md_costs (V : Vx) (l : Launch) (σ : Sg) (v1 : Int32) (v2 : Int32) (v3 : Int32) {r : Int32} (hf : f_Md_costs σ v1 v2 v3 = some r) : Ct V l y_Md_costs c_Md_costs 4 (some .int) (k2_rm 1 23) [rf V 66, .int v1, .int v2, .int v3] σ (some (.int r)) σ := Ct.ofJ (by decide +kernel) (Nat.le_of_ble_eq_true rfl) fun X _ => j_Md_costs _ v1 v2 v3 hf
def f_Md_minutes (σ : Sg) (v1 : Int32) (v2 : Int32) : Option Int32 :=
  (f_Md_rises σ v1 v2).bind fun r2 =>
    some (12 + (2 * r2))
set_option maxHeartbeats 4000000 in
theorem j_Md_minutes {V : Vx} {X : Xx} {r : Int32} (σ : Sg) (v1 : Int32) (v2 : Int32) (hf : f_Md_minutes σ v1 v2 = some r) : J V X (k2_rm 1 23) c_Md_minutes R_Md 3 (some .int) (Qr V X (some (.int r)) σ) σ 0 [(0, rf V 66), (1, .int v1), (2, .int v2)] [] := by
  unfold f_Md_minutes at hf
  refine J_bipush (pc' := 2) (v := 12) d_Md_minutes_0 rfl bc_12 ?_
  refine J_iconst (pc' := 3) (v := 2) d_Md_minutes_2 rfl ic_2 ?_
  refine J_aload_n (pc' := 4) d_Md_minutes_3 rfl 0 rfl ?_
  refine J_iload_n (pc' := 5) d_Md_minutes_4 rfl 1 rfl ?_
  refine J_iload_n (pc' := 6) d_Md_minutes_5 rfl 2 rfl ?_
  obtain ⟨r2, hq1, hf⟩ := bpE hf
  refine J_V (pc' := 9) (as := [.int v1, .int v2]) (rest := [.int 2, .int 12]) (st' := [.int r2, .int 2, .int 12]) d_Md_minutes_6 rfl sh_66 rfl mv_Md_186 (ct_Md_rises V _ σ v1 v2 hq1) rfl rfl ⟨Nat.le_of_ble_eq_true rfl, Nat.le_of_ble_eq_true rfl⟩ ⟨rfl, rfl⟩ (Nat.le_of_ble_eq_true rfl) rfl ?_
  refine J_imul (pc' := 10) d_Md_minutes_9 rfl ?_
  refine J_iadd (pc' := 11) d_Md_minutes_10 rfl ?_
  obtain rfl := Option.some.inj hf
  exact J_iret d_Md_minutes_11
theorem ct_Md_minutes (V : Vx) (l : Launch) (σ : Sg) (v1 : Int32) (v2 : Int32) {r : Int32} (hf : f_Md_minutes σ v1 v2 = some r) : Ct V l y_Md_minutes c_Md_minutes 3 (some .int) (k2_rm 1 23) [rf V 66, .int v1, .int v2] σ (some (.int r)) σ := Ct.ofJ (by decide +kernel) (Nat.le_of_ble_eq_true rfl) fun X _ => j_Md_minutes _ v1 v2 hf
def f_Md_takes (σ : Sg) (v1 : Int32) (v2 : Int32) (v3 : Int32) (v4 : Int32) : Option (Int32 × Sg) :=
  bd (f_Md_hasRope σ v1) fun r3 σ2 =>
    if r3 = 0 then
      some ((-2), σ2)
    else
      if (f_Md_isTwo v2) = 0 then
        some ((-2), σ2)
      else
        if (f_Md_isFigure v3) = 0 then
          some ((-2), σ2)
        else
          if (f_Md_isTwo v4) = 0 then
            some ((-2), σ2)
          else
            if v4 = 0 then
              (f_Md_minutes σ2 v1 v2).bind fun r12 =>
                some (r12, σ2)
            else
              (f_Md_costs σ2 v1 v2 v3).bind fun r10 =>
                some (r10, σ2)
set_option maxHeartbeats 4000000 in
theorem j_Md_takes {V : Vx} {X : Xx} {r : Int32} {σ' : Sg} (σ : Sg) (v1 : Int32) (v2 : Int32) (v3 : Int32) (v4 : Int32) (hf : f_Md_takes σ v1 v2 v3 v4 = some (r, σ')) : J V X (k2_rm 5 112) c_Md_takes R_Md 5 (some .int) (Qr V X (some (.int r)) σ') σ 0 [(0, rf V 66), (1, .int v1), (2, .int v2), (3, .int v3), (4, .int v4)] [] := by
  unfold f_Md_takes at hf
  refine J_aload_n (pc' := 1) d_Md_takes_0 rfl 0 rfl ?_
  refine J_iload_n (pc' := 2) d_Md_takes_1 rfl 1 rfl ?_
  obtain ⟨r3, σ2, hq1, hf⟩ := bdE hf
  refine J_V (pc' := 5) (as := [.int v1]) (rest := []) (st' := [.int r3]) d_Md_takes_2 rfl sh_66 rfl mv_Md_143 (ct_Md_hasRope V _ σ v1 hq1) rfl rfl ⟨Nat.le_of_ble_eq_true rfl, Nat.le_of_ble_eq_true rfl⟩ ⟨rfl, rfl⟩ (Nat.le_of_ble_eq_true rfl) rfl ?_
  refine J_if_eq (pc' := 8) (tgt := 30) d_Md_takes_5 rfl (by decide) (fun hc4 => ?_) (fun hc4 => ?_)
  · have hf := brT hc4 hf
    refine J_bipush (pc' := 32) (v := (-2)) d_Md_takes_30 rfl bc_m2 ?_
    obtain ⟨rfl, rfl⟩ := resE hf
    exact J_iret d_Md_takes_32
  · have hf := brF hc4 hf
    refine J_iload_n (pc' := 9) d_Md_takes_8 rfl 2 rfl ?_
    refine J_S (pc' := 12) (as := [.int v2]) (rest := []) (st' := [.int (f_Md_isTwo v2)]) d_Md_takes_9 rfl ms_Md_106 (ct_Md_isTwo V _ σ2 v2) rfl rfl ⟨Nat.le_of_ble_eq_true rfl, Nat.le_of_ble_eq_true rfl⟩ ⟨rfl, rfl⟩ (Nat.le_of_ble_eq_true rfl) rfl ?_
    refine J_if_eq (pc' := 15) (tgt := 30) d_Md_takes_12 rfl (by decide) (fun hc5 => ?_) (fun hc5 => ?_)
    · have hf := brT hc5 hf
      refine J_bipush (pc' := 32) (v := (-2)) d_Md_takes_30 rfl bc_m2 ?_
      obtain ⟨rfl, rfl⟩ := resE hf
      exact J_iret d_Md_takes_32
    · have hf := brF hc5 hf
      refine J_iload_n (pc' := 16) d_Md_takes_15 rfl 3 rfl ?_
      refine J_S (pc' := 19) (as := [.int v3]) (rest := []) (st' := [.int (f_Md_isFigure v3)]) d_Md_takes_16 rfl ms_Md_189 (ct_Md_isFigure V _ σ2 v3) rfl rfl ⟨Nat.le_of_ble_eq_true rfl, Nat.le_of_ble_eq_true rfl⟩ ⟨rfl, rfl⟩ (Nat.le_of_ble_eq_true rfl) rfl ?_
      refine J_if_eq (pc' := 22) (tgt := 30) d_Md_takes_19 rfl (by decide) (fun hc6 => ?_) (fun hc6 => ?_)
      · have hf := brT hc6 hf
        refine J_bipush (pc' := 32) (v := (-2)) d_Md_takes_30 rfl bc_m2 ?_
        obtain ⟨rfl, rfl⟩ := resE hf
        exact J_iret d_Md_takes_32
      · have hf := brF hc6 hf
        refine J_iload (pc' := 24) d_Md_takes_22 rfl 4 rfl ?_
        refine J_S (pc' := 27) (as := [.int v4]) (rest := []) (st' := [.int (f_Md_isTwo v4)]) d_Md_takes_24 rfl ms_Md_106 (ct_Md_isTwo V _ σ2 v4) rfl rfl ⟨Nat.le_of_ble_eq_true rfl, Nat.le_of_ble_eq_true rfl⟩ ⟨rfl, rfl⟩ (Nat.le_of_ble_eq_true rfl) rfl ?_
        refine J_if_ne (pc' := 30) (tgt := 33) d_Md_takes_27 rfl (by decide) (fun hc7 => ?_) (fun hc7 => ?_)
        · have hf := brF hc7 hf
          refine J_iload (pc' := 35) d_Md_takes_33 rfl 4 rfl ?_
          refine J_if_ne (pc' := 38) (tgt := 47) d_Md_takes_35 rfl (by decide) (fun hc8 => ?_) (fun hc8 => ?_)
          · have hf := brF hc8 hf
            refine J_aload_n (pc' := 48) d_Md_takes_47 rfl 0 rfl ?_
            refine J_iload_n (pc' := 49) d_Md_takes_48 rfl 1 rfl ?_
            refine J_iload_n (pc' := 50) d_Md_takes_49 rfl 2 rfl ?_
            refine J_iload_n (pc' := 51) d_Md_takes_50 rfl 3 rfl ?_
            obtain ⟨r10, hq9, hf⟩ := bpE hf
            refine J_V (pc' := 54) (as := [.int v1, .int v2, .int v3]) (rest := []) (st' := [.int r10]) d_Md_takes_51 rfl sh_66 rfl mv_Md_195 (ct_Md_costs V _ σ2 v1 v2 v3 hq9) rfl rfl ⟨Nat.le_of_ble_eq_true rfl, Nat.le_of_ble_eq_true rfl⟩ ⟨rfl, rfl⟩ (Nat.le_of_ble_eq_true rfl) rfl ?_
            obtain ⟨rfl, rfl⟩ := resE hf
            exact J_iret d_Md_takes_54
          · have hf := brT hc8 hf
            refine J_aload_n (pc' := 39) d_Md_takes_38 rfl 0 rfl ?_
            refine J_iload_n (pc' := 40) d_Md_takes_39 rfl 1 rfl ?_
            refine J_iload_n (pc' := 41) d_Md_takes_40 rfl 2 rfl ?_
            obtain ⟨r12, hq11, hf⟩ := bpE hf
            refine J_V (pc' := 44) (as := [.int v1, .int v2]) (rest := []) (st' := [.int r12]) d_Md_takes_41 rfl sh_66 rfl mv_Md_192 (ct_Md_minutes V _ σ2 v1 v2 hq11) rfl rfl ⟨Nat.le_of_ble_eq_true rfl, Nat.le_of_ble_eq_true rfl⟩ ⟨rfl, rfl⟩ (Nat.le_of_ble_eq_true rfl) rfl ?_
            refine J_goto (tgt := 54) d_Md_takes_44 (by decide) ?_
            obtain ⟨rfl, rfl⟩ := resE hf
            exact J_iret d_Md_takes_54
        · have hf := brT hc7 hf
          refine J_bipush (pc' := 32) (v := (-2)) d_Md_takes_30 rfl bc_m2 ?_
          obtain ⟨rfl, rfl⟩ := resE hf
          exact J_iret d_Md_takes_32
theorem ct_Md_takes (V : Vx) (l : Launch) (σ : Sg) (v1 : Int32) (v2 : Int32) (v3 : Int32) (v4 : Int32) {r : Int32} {σ' : Sg} (hf : f_Md_takes σ v1 v2 v3 v4 = some (r, σ')) : Ct V l y_Md_takes c_Md_takes 5 (some .int) (k2_rm 5 112) [rf V 66, .int v1, .int v2, .int v3, .int v4] σ (some (.int r)) σ' := Ct.ofJ (by decide +kernel) (Nat.le_of_ble_eq_true rfl) fun X _ => j_Md_takes _ v1 v2 v3 v4 hf
def f_Md_set_48 (σ : Sg) (v1 : Int32) (v2 : Int32) (s0 : Int64) (s1 : Int64) (s2 : Int64) : Option (Int32 × Sg) :=
  if (f_Md_in s2 s1 s0) = 0 then
    some ((-2), σ)
  else
    gd (vin v1 3) (
      gd (vin v1 3) (
        some (σ.1 75 v1.toNatClampNeg, (pI σ 75 v1.toNatClampNeg v2))))
set_option maxHeartbeats 4000000 in
theorem j_Md_set_48 {V : Vx} {X : Xx} {r : Int32} {σ' : Sg}  (σ : Sg) (v1 : Int32) (v2 : Int32) (s0 : Int64) (s1 : Int64) (s2 : Int64) (hf : f_Md_set_48 σ v1 v2 s0 s1 s2 = some (r, σ')) : J V X (k2_rm 1 25) c_Md_set R_Md 4 (some .int) (Qr V X (some (.int r)) σ') σ 48 [(0, rf V 66), (1, .int v1), (2, .int v2)] [.long s0, .long s1, .long s2] := by
  unfold f_Md_set_48 at hf
  refine J_S (pc' := 51) (as := [.long s2, .long s1, .long s0]) (rest := []) (st' := [.int (f_Md_in s2 s1 s0)]) d_Md_set_48 rfl ms_Md_73 (ct_Md_in V _ σ s2 s1 s0) rfl rfl ⟨Nat.le_of_ble_eq_true rfl, Nat.le_of_ble_eq_true rfl⟩ ⟨rfl, rfl⟩ (Nat.le_of_ble_eq_true rfl) rfl ?_
  refine J_if_ne (pc' := 54) (tgt := 57) d_Md_set_51 rfl (by decide) (fun hc5 => ?_) (fun hc5 => ?_)
  · have hf := brF hc5 hf
    refine J_aload_n (pc' := 58) d_Md_set_57 rfl 0 rfl ?_
    refine J_getR (pc' := 61) d_Md_set_58 rfl sh_66 fl_Md_34 rfl ?_
    refine J_iload_n (pc' := 62) d_Md_set_61 rfl 1 rfl ?_
    obtain ⟨hg6, hf⟩ := gdE hf
    refine J_ial (pc' := 63) d_Md_set_62 rfl sh_75 (vinP hg6) ?_
    refine J_istore_n (pc' := 64) (lv' := [(3, .int (σ.1 75 v1.toNatClampNeg)), (0, rf V 66), (1, .int v1), (2, .int v2)]) d_Md_set_63 rfl rfl (by decide) rfl ?_
    refine J_aload_n (pc' := 65) d_Md_set_64 rfl 1 rfl ?_
    refine J_getR (pc' := 68) d_Md_set_65 rfl sh_66 fl_Md_34 rfl ?_
    refine J_iload_n (pc' := 69) d_Md_set_68 rfl 2 rfl ?_
    refine J_iload_n (pc' := 70) d_Md_set_69 rfl 3 rfl ?_
    obtain ⟨hg7, hf⟩ := gdE hf
    refine J_ias (pc' := 71) d_Md_set_70 rfl sh_75 (vinP hg7) ?_
    refine J_iload_n (pc' := 72) d_Md_set_71 rfl 0 rfl ?_
    obtain ⟨rfl, rfl⟩ := resE hf
    exact J_iret d_Md_set_72
  · have hf := brT hc5 hf
    refine J_bipush (pc' := 56) (v := (-2)) d_Md_set_54 rfl bc_m2 ?_
    obtain ⟨rfl, rfl⟩ := resE hf
    exact J_iret d_Md_set_56
def f_Md_set_24 (σ : Sg) (v1 : Int32) (v2 : Int32) (s0 : Int64) (s1 : Int64) : Option (Int32 × Sg) :=
  if v1 = 0 then f_Md_set_48 σ v1 v2 9 s0 s1 else if v1 = 1 then f_Md_set_48 σ v1 v2 99 s0 s1 else f_Md_set_48 σ v1 v2 999 s0 s1
set_option maxHeartbeats 4000000 in
theorem j_Md_set_24 {V : Vx} {X : Xx} {r : Int32} {σ' : Sg}  (σ : Sg) (v1 : Int32) (v2 : Int32) (s0 : Int64) (s1 : Int64) (hf : f_Md_set_24 σ v1 v2 s0 s1 = some (r, σ')) : J V X (k2_rm 1 25) c_Md_set R_Md 4 (some .int) (Qr V X (some (.int r)) σ') σ 24 [(0, rf V 66), (1, .int v1), (2, .int v2)] [.long s0, .long s1] := by
  unfold f_Md_set_24 at hf
  refine J_iload_n (pc' := 25) d_Md_set_24 rfl 1 rfl ?_
  refine J_if_ne (pc' := 28) (tgt := 34) d_Md_set_25 rfl (by decide) (fun hc3 => ?_) (fun hc3 => ?_)
  · have hf := brF hc3 hf
    refine J_iload_n (pc' := 35) d_Md_set_34 rfl 1 rfl ?_
    refine J_iconst (pc' := 36) (v := 1) d_Md_set_35 rfl ic_1 ?_
    refine J_icmp_ne (pc' := 39) (tgt := 45) d_Md_set_36 rfl (by decide) (fun hc4 => ?_) (fun hc4 => ?_)
    · have hf := brF hc4 hf
      refine J_ldc2 (pc' := 48) (v := 999) d_Md_set_45 rfl cw_Md_200 ?_
      exact j_Md_set_48 _ _ _ _ _ _ hf
    · have hf := brT hc4 hf
      refine J_ldc2 (pc' := 42) (v := 99) d_Md_set_39 rfl cw_Md_198 ?_
      refine J_goto (tgt := 48) d_Md_set_42 (by decide) ?_
      exact j_Md_set_48 _ _ _ _ _ _ hf
  · have hf := brT hc3 hf
    refine J_ldc2 (pc' := 31) (v := 9) d_Md_set_28 rfl cw_Md_77 ?_
    refine J_goto (tgt := 48) d_Md_set_31 (by decide) ?_
    exact j_Md_set_48 _ _ _ _ _ _ hf
def f_Md_set (σ : Sg) (v1 : Int32) (v2 : Int32) : Option (Int32 × Sg) :=
  if (f_Md_in v1.toInt64 0 2) = 0 then some ((-2), σ) else if v1 = 2 then f_Md_set_24 σ v1 v2 0 v2.toInt64 else f_Md_set_24 σ v1 v2 1 v2.toInt64
set_option maxHeartbeats 4000000 in
theorem j_Md_set {V : Vx} {X : Xx} {r : Int32} {σ' : Sg} (σ : Sg) (v1 : Int32) (v2 : Int32) (hf : f_Md_set σ v1 v2 = some (r, σ')) : J V X (k2_rm 1 25) c_Md_set R_Md 4 (some .int) (Qr V X (some (.int r)) σ') σ 0 [(0, rf V 66), (1, .int v1), (2, .int v2)] [] := by
  unfold f_Md_set at hf
  refine J_iload_n (pc' := 1) d_Md_set_0 rfl 1 rfl ?_
  refine J_i2l (pc' := 2) d_Md_set_1 rfl ?_
  refine J_lconst (pc' := 3) (v := 0) d_Md_set_2 rfl lc_0 ?_
  refine J_ldc2 (pc' := 6) (v := 2) d_Md_set_3 rfl cw_Md_91 ?_
  refine J_S (pc' := 9) (as := [.long v1.toInt64, .long 0, .long 2]) (rest := []) (st' := [.int (f_Md_in v1.toInt64 0 2)]) d_Md_set_6 rfl ms_Md_73 (ct_Md_in V _ σ v1.toInt64 0 2) rfl rfl ⟨Nat.le_of_ble_eq_true rfl, Nat.le_of_ble_eq_true rfl⟩ ⟨rfl, rfl⟩ (Nat.le_of_ble_eq_true rfl) rfl ?_
  refine J_if_eq (pc' := 12) (tgt := 54) d_Md_set_9 rfl (by decide) (fun hc1 => ?_) (fun hc1 => ?_)
  · have hf := brT hc1 hf
    refine J_bipush (pc' := 56) (v := (-2)) d_Md_set_54 rfl bc_m2 ?_
    obtain ⟨rfl, rfl⟩ := resE hf
    exact J_iret d_Md_set_56
  · have hf := brF hc1 hf
    refine J_iload_n (pc' := 13) d_Md_set_12 rfl 2 rfl ?_
    refine J_i2l (pc' := 14) d_Md_set_13 rfl ?_
    refine J_iload_n (pc' := 15) d_Md_set_14 rfl 1 rfl ?_
    refine J_iconst (pc' := 16) (v := 2) d_Md_set_15 rfl ic_2 ?_
    refine J_icmp_ne (pc' := 19) (tgt := 23) d_Md_set_16 rfl (by decide) (fun hc2 => ?_) (fun hc2 => ?_)
    · have hf := brF hc2 hf
      refine J_lconst (pc' := 24) (v := 1) d_Md_set_23 rfl lc_1 ?_
      exact j_Md_set_24 _ _ _ _ _ hf
    · have hf := brT hc2 hf
      refine J_lconst (pc' := 20) (v := 0) d_Md_set_19 rfl lc_0 ?_
      refine J_goto (tgt := 24) d_Md_set_20 (by decide) ?_
      exact j_Md_set_24 _ _ _ _ _ hf
theorem ct_Md_set (V : Vx) (l : Launch) (σ : Sg) (v1 : Int32) (v2 : Int32) {r : Int32} {σ' : Sg} (hf : f_Md_set σ v1 v2 = some (r, σ')) : Ct V l y_Md_set c_Md_set 4 (some .int) (k2_rm 1 25) [rf V 66, .int v1, .int v2] σ (some (.int r)) σ' := Ct.ofJ (by decide +kernel) (Nat.le_of_ble_eq_true rfl) fun X _ => j_Md_set _ v1 v2 hf
def f_Md_isOwner (v0 : Int32) : Int32 :=
  zb (f_Md_in v0.toInt64 0 4)
set_option maxHeartbeats 4000000 in
theorem j_Md_isOwner {V : Vx} {X : Xx} {r : Int32} (σ : Sg) (v0 : Int32) (hf : f_Md_isOwner v0 = r) : J V X (k2_rm 1 25) c_Md_isOwner R_Md 1 (some .boolean) (Qr V X (some (.int r)) σ) σ 0 [(0, .int v0)] [] := by
  unfold f_Md_isOwner at hf
  refine J_iload_n (pc' := 1) d_Md_isOwner_0 rfl 0 rfl ?_
  refine J_i2l (pc' := 2) d_Md_isOwner_1 rfl ?_
  refine J_lconst (pc' := 3) (v := 0) d_Md_isOwner_2 rfl lc_0 ?_
  refine J_ldc2 (pc' := 6) (v := 4) d_Md_isOwner_3 rfl cw_Md_79 ?_
  refine J_S (pc' := 9) (as := [.long v0.toInt64, .long 0, .long 4]) (rest := []) (st' := [.int (f_Md_in v0.toInt64 0 4)]) d_Md_isOwner_6 rfl ms_Md_73 (ct_Md_in V _ σ v0.toInt64 0 4) rfl rfl ⟨Nat.le_of_ble_eq_true rfl, Nat.le_of_ble_eq_true rfl⟩ ⟨rfl, rfl⟩ (Nat.le_of_ble_eq_true rfl) rfl ?_
  subst hf
  exact J_zretG d_Md_isOwner_9
theorem ct_Md_isOwner (V : Vx) (l : Launch) (σ : Sg) (v0 : Int32) : Ct V l y_Md_isOwner c_Md_isOwner 1 (some .boolean) (k2_rm 1 25) [.int v0] σ (some (.int (f_Md_isOwner v0))) σ := Ct.ofJ (by decide +kernel) (Nat.le_of_ble_eq_true rfl) fun X _ => j_Md_isOwner _ v0 rfl
