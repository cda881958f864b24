theorem d_Md_putOff_0 : decode c_Md_putOff 0 = .ok (.aload_n 0, 1) := by decide +kernel
theorem d_Md_putOff_1 : decode c_Md_putOff 1 = .ok (.iload_n 1, 1) := by decide +kernel
theorem d_Md_putOff_2 : decode c_Md_putOff 2 = .ok (.invokevirtual 225, 3) := by decide +kernel
theorem d_Md_putOff_5 : decode c_Md_putOff 5 = .ok (.ifCond .ne 6, 3) := by decide +kernel
theorem d_Md_putOff_8 : decode c_Md_putOff 8 = .ok (.bipush (-2), 2) := by decide +kernel
theorem d_Md_putOff_10 : decode c_Md_putOff 10 = .ok (.ireturn, 1) := by decide +kernel
theorem d_Md_putOff_11 : decode c_Md_putOff 11 = .ok (.aload_n 0, 1) := by decide +kernel
theorem d_Md_putOff_12 : decode c_Md_putOff 12 = .ok (.invokevirtual 243, 3) := by decide +kernel
theorem d_Md_putOff_15 : decode c_Md_putOff 15 = .ok (.aload_n 0, 1) := by decide +kernel
theorem d_Md_putOff_16 : decode c_Md_putOff 16 = .ok (.iload_n 1, 1) := by decide +kernel
theorem d_Md_putOff_17 : decode c_Md_putOff 17 = .ok (.invokevirtual 219, 3) := by decide +kernel
theorem d_Md_putOff_20 : decode c_Md_putOff 20 = .ok (.ifCond .eq 12, 3) := by decide +kernel
theorem d_Md_putOff_23 : decode c_Md_putOff 23 = .ok (.aload_n 0, 1) := by decide +kernel
theorem d_Md_putOff_24 : decode c_Md_putOff 24 = .ok (.getfield 40, 3) := by decide +kernel
theorem d_Md_putOff_27 : decode c_Md_putOff 27 = .ok (.iload_n 1, 1) := by decide +kernel
theorem d_Md_putOff_28 : decode c_Md_putOff 28 = .ok (.iaload, 1) := by decide +kernel
theorem d_Md_putOff_29 : decode c_Md_putOff 29 = .ok (.goto 4, 3) := by decide +kernel
theorem d_Md_putOff_32 : decode c_Md_putOff 32 = .ok (.iconst (-1), 1) := by decide +kernel
theorem d_Md_putOff_33 : decode c_Md_putOff 33 = .ok (.ireturn, 1) := by decide +kernel
theorem d_Md_frayedOf_0 : decode c_Md_frayedOf 0 = .ok (.iconst 0, 1) := by decide +kernel
theorem d_Md_frayedOf_1 : decode c_Md_frayedOf 1 = .ok (.istore_n 3, 1) := by decide +kernel
theorem d_Md_frayedOf_2 : decode c_Md_frayedOf 2 = .ok (.iconst 0, 1) := by decide +kernel
theorem d_Md_frayedOf_3 : decode c_Md_frayedOf 3 = .ok (.istore 4, 2) := by decide +kernel
theorem d_Md_frayedOf_5 : decode c_Md_frayedOf 5 = .ok (.iload 4, 2) := by decide +kernel
theorem d_Md_frayedOf_7 : decode c_Md_frayedOf 7 = .ok (.aload_n 0, 1) := by decide +kernel
theorem d_Md_frayedOf_8 : decode c_Md_frayedOf 8 = .ok (.getfield 209, 3) := by decide +kernel
theorem d_Md_frayedOf_11 : decode c_Md_frayedOf 11 = .ok (.if_icmp .ge 73, 3) := by decide +kernel
theorem d_Md_frayedOf_14 : decode c_Md_frayedOf 14 = .ok (.iload_n 3, 1) := by decide +kernel
theorem d_Md_frayedOf_15 : decode c_Md_frayedOf 15 = .ok (.aload_n 0, 1) := by decide +kernel
theorem d_Md_frayedOf_16 : decode c_Md_frayedOf 16 = .ok (.getfield 37, 3) := by decide +kernel
theorem d_Md_frayedOf_19 : decode c_Md_frayedOf 19 = .ok (.iconst 5, 1) := by decide +kernel
theorem d_Md_frayedOf_20 : decode c_Md_frayedOf 20 = .ok (.iload 4, 2) := by decide +kernel
theorem d_Md_frayedOf_22 : decode c_Md_frayedOf 22 = .ok (.imul, 1) := by decide +kernel
theorem d_Md_frayedOf_23 : decode c_Md_frayedOf 23 = .ok (.iaload, 1) := by decide +kernel
theorem d_Md_frayedOf_24 : decode c_Md_frayedOf 24 = .ok (.iload_n 1, 1) := by decide +kernel
theorem d_Md_frayedOf_25 : decode c_Md_frayedOf 25 = .ok (.if_icmp .ne 19, 3) := by decide +kernel
theorem d_Md_frayedOf_28 : decode c_Md_frayedOf 28 = .ok (.aload_n 0, 1) := by decide +kernel
theorem d_Md_frayedOf_29 : decode c_Md_frayedOf 29 = .ok (.getfield 37, 3) := by decide +kernel
theorem d_Md_frayedOf_32 : decode c_Md_frayedOf 32 = .ok (.iconst 5, 1) := by decide +kernel
theorem d_Md_frayedOf_33 : decode c_Md_frayedOf 33 = .ok (.iload 4, 2) := by decide +kernel
theorem d_Md_frayedOf_35 : decode c_Md_frayedOf 35 = .ok (.imul, 1) := by decide +kernel
theorem d_Md_frayedOf_36 : decode c_Md_frayedOf 36 = .ok (.iconst 3, 1) := by decide +kernel
theorem d_Md_frayedOf_37 : decode c_Md_frayedOf 37 = .ok (.iadd, 1) := by decide +kernel
theorem d_Md_frayedOf_38 : decode c_Md_frayedOf 38 = .ok (.iaload, 1) := by decide +kernel
theorem d_Md_frayedOf_39 : decode c_Md_frayedOf 39 = .ok (.iconst 1, 1) := by decide +kernel
theorem d_Md_frayedOf_40 : decode c_Md_frayedOf 40 = .ok (.iadd, 1) := by decide +kernel
theorem d_Md_frayedOf_41 : decode c_Md_frayedOf 41 = .ok (.goto 4, 3) := by decide +kernel
theorem d_Md_frayedOf_44 : decode c_Md_frayedOf 44 = .ok (.iconst 0, 1) := by decide +kernel
theorem d_Md_frayedOf_45 : decode c_Md_frayedOf 45 = .ok (.iadd, 1) := by decide +kernel
theorem d_Md_frayedOf_46 : decode c_Md_frayedOf 46 = .ok (.istore_n 3, 1) := by decide +kernel
theorem d_Md_frayedOf_47 : decode c_Md_frayedOf 47 = .ok (.iload_n 2, 1) := by decide +kernel
theorem d_Md_frayedOf_48 : decode c_Md_frayedOf 48 = .ok (.iconst 1, 1) := by decide +kernel
theorem d_Md_frayedOf_49 : decode c_Md_frayedOf 49 = .ok (.if_icmp .ne 29, 3) := by decide +kernel
theorem d_Md_frayedOf_52 : decode c_Md_frayedOf 52 = .ok (.aload_n 0, 1) := by decide +kernel
theorem d_Md_frayedOf_53 : decode c_Md_frayedOf 53 = .ok (.getfield 37, 3) := by decide +kernel
theorem d_Md_frayedOf_56 : decode c_Md_frayedOf 56 = .ok (.iconst 5, 1) := by decide +kernel
theorem d_Md_frayedOf_57 : decode c_Md_frayedOf 57 = .ok (.iload 4, 2) := by decide +kernel
theorem d_Md_frayedOf_59 : decode c_Md_frayedOf 59 = .ok (.imul, 1) := by decide +kernel
theorem d_Md_frayedOf_60 : decode c_Md_frayedOf 60 = .ok (.iaload, 1) := by decide +kernel
theorem d_Md_frayedOf_61 : decode c_Md_frayedOf 61 = .ok (.iload_n 1, 1) := by decide +kernel
theorem d_Md_frayedOf_62 : decode c_Md_frayedOf 62 = .ok (.if_icmp .ne 16, 3) := by decide +kernel
theorem d_Md_frayedOf_65 : decode c_Md_frayedOf 65 = .ok (.iload_n 3, 1) := by decide +kernel
theorem d_Md_frayedOf_66 : decode c_Md_frayedOf 66 = .ok (.aload_n 0, 1) := by decide +kernel
theorem d_Md_frayedOf_67 : decode c_Md_frayedOf 67 = .ok (.getfield 34, 3) := by decide +kernel
theorem d_Md_frayedOf_70 : decode c_Md_frayedOf 70 = .ok (.iconst 1, 1) := by decide +kernel
theorem d_Md_frayedOf_71 : decode c_Md_frayedOf 71 = .ok (.iaload, 1) := by decide +kernel
theorem d_Md_frayedOf_72 : decode c_Md_frayedOf 72 = .ok (.if_icmp .le 6, 3) := by decide +kernel
theorem d_Md_frayedOf_75 : decode c_Md_frayedOf 75 = .ok (.iload 4, 2) := by decide +kernel
theorem d_Md_frayedOf_77 : decode c_Md_frayedOf 77 = .ok (.ireturn, 1) := by decide +kernel
theorem d_Md_frayedOf_78 : decode c_Md_frayedOf 78 = .ok (.iinc 4 1, 3) := by decide +kernel
theorem d_Md_frayedOf_81 : decode c_Md_frayedOf 81 = .ok (.goto (-76), 3) := by decide +kernel
theorem d_Md_frayedOf_84 : decode c_Md_frayedOf 84 = .ok (.iload_n 2, 1) := by decide +kernel
theorem d_Md_frayedOf_85 : decode c_Md_frayedOf 85 = .ok (.ifCond .ne 7, 3) := by decide +kernel
theorem d_Md_frayedOf_88 : decode c_Md_frayedOf 88 = .ok (.iload_n 3, 1) := by decide +kernel
theorem d_Md_frayedOf_89 : decode c_Md_frayedOf 89 = .ok (.goto 4, 3) := by decide +kernel
theorem d_Md_frayedOf_92 : decode c_Md_frayedOf 92 = .ok (.iconst (-1), 1) := by decide +kernel
theorem d_Md_frayedOf_93 : decode c_Md_frayedOf 93 = .ok (.ireturn, 1) := by decide +kernel
theorem d_Md_frayed_0 : decode c_Md_frayed 0 = .ok (.aload_n 0, 1) := by decide +kernel
theorem d_Md_frayed_1 : decode c_Md_frayed 1 = .ok (.iload_n 1, 1) := by decide +kernel
theorem d_Md_frayed_2 : decode c_Md_frayed 2 = .ok (.invokevirtual 143, 3) := by decide +kernel
theorem d_Md_frayed_5 : decode c_Md_frayed 5 = .ok (.ifCond .eq 19, 3) := by decide +kernel
theorem d_Md_frayed_8 : decode c_Md_frayed 8 = .ok (.iload_n 2, 1) := by decide +kernel
theorem d_Md_frayed_9 : decode c_Md_frayed 9 = .ok (.invokestatic 106, 3) := by decide +kernel
theorem d_Md_frayed_12 : decode c_Md_frayed 12 = .ok (.ifCond .eq 12, 3) := by decide +kernel
theorem d_Md_frayed_15 : decode c_Md_frayed 15 = .ok (.aload_n 0, 1) := by decide +kernel
theorem d_Md_frayed_16 : decode c_Md_frayed 16 = .ok (.iload_n 1, 1) := by decide +kernel
theorem d_Md_frayed_17 : decode c_Md_frayed 17 = .ok (.iload_n 2, 1) := by decide +kernel
theorem d_Md_frayed_18 : decode c_Md_frayed 18 = .ok (.invokevirtual 246, 3) := by decide +kernel
theorem d_Md_frayed_21 : decode c_Md_frayed 21 = .ok (.goto 5, 3) := by decide +kernel
theorem d_Md_frayed_24 : decode c_Md_frayed 24 = .ok (.bipush (-2), 2) := by decide +kernel
theorem d_Md_frayed_26 : decode c_Md_frayed 26 = .ok (.ireturn, 1) := by decide +kernel
theorem d_Md_yet_0 : decode c_Md_yet 0 = .ok (.aload_n 0, 1) := by decide +kernel
theorem d_Md_yet_1 : decode c_Md_yet 1 = .ok (.iload_n 1, 1) := by decide +kernel
theorem d_Md_yet_2 : decode c_Md_yet 2 = .ok (.invokevirtual 143, 3) := by decide +kernel
theorem d_Md_yet_5 : decode c_Md_yet 5 = .ok (.ifCond .eq 10, 3) := by decide +kernel
theorem d_Md_yet_8 : decode c_Md_yet 8 = .ok (.iload_n 2, 1) := by decide +kernel
theorem d_Md_yet_9 : decode c_Md_yet 9 = .ok (.invokestatic 189, 3) := by decide +kernel
theorem d_Md_yet_12 : decode c_Md_yet 12 = .ok (.ifCond .ne 6, 3) := by decide +kernel
theorem d_Md_yet_15 : decode c_Md_yet 15 = .ok (.bipush (-2), 2) := by decide +kernel
theorem d_Md_yet_17 : decode c_Md_yet 17 = .ok (.ireturn, 1) := by decide +kernel
theorem d_Md_yet_18 : decode c_Md_yet 18 = .ok (.aload_n 0, 1) := by decide +kernel
theorem d_Md_yet_19 : decode c_Md_yet 19 = .ok (.getfield 34, 3) := by decide +kernel
theorem d_Md_yet_22 : decode c_Md_yet 22 = .ok (.iconst 1, 1) := by decide +kernel
theorem d_Md_yet_23 : decode c_Md_yet 23 = .ok (.iaload, 1) := by decide +kernel
theorem d_Md_yet_24 : decode c_Md_yet 24 = .ok (.aload_n 0, 1) := by decide +kernel
theorem d_Md_yet_25 : decode c_Md_yet 25 = .ok (.iload_n 1, 1) := by decide +kernel
theorem d_Md_yet_26 : decode c_Md_yet 26 = .ok (.iconst 0, 1) := by decide +kernel
theorem d_Md_yet_27 : decode c_Md_yet 27 = .ok (.invokevirtual 246, 3) := by decide +kernel
theorem d_Md_yet_30 : decode c_Md_yet 30 = .ok (.isub, 1) := by decide +kernel
theorem d_Md_yet_31 : decode c_Md_yet 31 = .ok (.istore_n 3, 1) := by decide +kernel
theorem d_Md_yet_32 : decode c_Md_yet 32 = .ok (.iload_n 3, 1) := by decide +kernel
theorem d_Md_yet_33 : decode c_Md_yet 33 = .ok (.ifCond .ge 7, 3) := by decide +kernel
theorem d_Md_yet_36 : decode c_Md_yet 36 = .ok (.iconst 0, 1) := by decide +kernel
theorem d_Md_yet_37 : decode c_Md_yet 37 = .ok (.goto 8, 3) := by decide +kernel
theorem d_Md_yet_40 : decode c_Md_yet 40 = .ok (.iload_n 3, 1) := by decide +kernel
theorem d_Md_yet_41 : decode c_Md_yet 41 = .ok (.iload_n 2, 1) := by decide +kernel
theorem d_Md_yet_42 : decode c_Md_yet 42 = .ok (.iconst 1, 1) := by decide +kernel
theorem d_Md_yet_43 : decode c_Md_yet 43 = .ok (.iadd, 1) := by decide +kernel
theorem d_Md_yet_44 : decode c_Md_yet 44 = .ok (.idiv, 1) := by decide +kernel
theorem d_Md_yet_45 : decode c_Md_yet 45 = .ok (.ireturn, 1) := by decide +kernel
theorem d_Md_heavyNow_0 : decode c_Md_heavyNow 0 = .ok (.iconst 0, 1) := by decide +kernel
theorem d_Md_heavyNow_1 : decode c_Md_heavyNow 1 = .ok (.istore_n 1, 1) := by decide +kernel
theorem d_Md_heavyNow_2 : decode c_Md_heavyNow 2 = .ok (.iconst 0, 1) := by decide +kernel
theorem d_Md_heavyNow_3 : decode c_Md_heavyNow 3 = .ok (.istore_n 2, 1) := by decide +kernel
theorem d_Md_heavyNow_4 : decode c_Md_heavyNow 4 = .ok (.iload_n 2, 1) := by decide +kernel
theorem d_Md_heavyNow_5 : decode c_Md_heavyNow 5 = .ok (.aload_n 0, 1) := by decide +kernel
theorem d_Md_heavyNow_6 : decode c_Md_heavyNow 6 = .ok (.getfield 209, 3) := by decide +kernel
theorem d_Md_heavyNow_9 : decode c_Md_heavyNow 9 = .ok (.if_icmp .ge 58, 3) := by decide +kernel
theorem d_Md_heavyNow_12 : decode c_Md_heavyNow 12 = .ok (.iload_n 1, 1) := by decide +kernel
theorem d_Md_heavyNow_13 : decode c_Md_heavyNow 13 = .ok (.aload_n 0, 1) := by decide +kernel
theorem d_Md_heavyNow_14 : decode c_Md_heavyNow 14 = .ok (.iload_n 2, 1) := by decide +kernel
theorem d_Md_heavyNow_15 : decode c_Md_heavyNow 15 = .ok (.invokevirtual 219, 3) := by decide +kernel
theorem d_Md_heavyNow_18 : decode c_Md_heavyNow 18 = .ok (.ifCond .eq 40, 3) := by decide +kernel
theorem d_Md_heavyNow_21 : decode c_Md_heavyNow 21 = .ok (.aload_n 0, 1) := by decide +kernel
theorem d_Md_heavyNow_22 : decode c_Md_heavyNow 22 = .ok (.getfield 37, 3) := by decide +kernel
theorem d_Md_heavyNow_25 : decode c_Md_heavyNow 25 = .ok (.iconst 5, 1) := by decide +kernel
theorem d_Md_heavyNow_26 : decode c_Md_heavyNow 26 = .ok (.iload_n 2, 1) := by decide +kernel
theorem d_Md_heavyNow_27 : decode c_Md_heavyNow 27 = .ok (.imul, 1) := by decide +kernel
theorem d_Md_heavyNow_28 : decode c_Md_heavyNow 28 = .ok (.iconst 3, 1) := by decide +kernel
theorem d_Md_heavyNow_29 : decode c_Md_heavyNow 29 = .ok (.iadd, 1) := by decide +kernel
theorem d_Md_heavyNow_30 : decode c_Md_heavyNow 30 = .ok (.iaload, 1) := by decide +kernel
theorem d_Md_heavyNow_31 : decode c_Md_heavyNow 31 = .ok (.aload_n 0, 1) := by decide +kernel
theorem d_Md_heavyNow_32 : decode c_Md_heavyNow 32 = .ok (.getfield 28, 3) := by decide +kernel
theorem d_Md_heavyNow_35 : decode c_Md_heavyNow 35 = .ok (.bipush 6, 2) := by decide +kernel
theorem d_Md_heavyNow_37 : decode c_Md_heavyNow 37 = .ok (.aload_n 0, 1) := by decide +kernel
theorem d_Md_heavyNow_38 : decode c_Md_heavyNow 38 = .ok (.getfield 37, 3) := by decide +kernel
theorem d_Md_heavyNow_41 : decode c_Md_heavyNow 41 = .ok (.iconst 5, 1) := by decide +kernel
theorem d_Md_heavyNow_42 : decode c_Md_heavyNow 42 = .ok (.iload_n 2, 1) := by decide +kernel
theorem d_Md_heavyNow_43 : decode c_Md_heavyNow 43 = .ok (.imul, 1) := by decide +kernel
theorem d_Md_heavyNow_44 : decode c_Md_heavyNow 44 = .ok (.iaload, 1) := by decide +kernel
theorem d_Md_heavyNow_45 : decode c_Md_heavyNow 45 = .ok (.imul, 1) := by decide +kernel
theorem d_Md_heavyNow_46 : decode c_Md_heavyNow 46 = .ok (.iconst 3, 1) := by decide +kernel
theorem d_Md_heavyNow_47 : decode c_Md_heavyNow 47 = .ok (.iadd, 1) := by decide +kernel
theorem d_Md_heavyNow_48 : decode c_Md_heavyNow 48 = .ok (.iaload, 1) := by decide +kernel
theorem d_Md_heavyNow_49 : decode c_Md_heavyNow 49 = .ok (.if_icmp .le 9, 3) := by decide +kernel
theorem d_Md_heavyNow_52 : decode c_Md_heavyNow 52 = .ok (.iconst 1, 1) := by decide +kernel
theorem d_Md_heavyNow_53 : decode c_Md_heavyNow 53 = .ok (.iload_n 2, 1) := by decide +kernel
theorem d_Md_heavyNow_54 : decode c_Md_heavyNow 54 = .ok (.ishl, 1) := by decide +kernel
theorem d_Md_heavyNow_55 : decode c_Md_heavyNow 55 = .ok (.goto 4, 3) := by decide +kernel
theorem d_Md_heavyNow_58 : decode c_Md_heavyNow 58 = .ok (.iconst 0, 1) := by decide +kernel
theorem d_Md_heavyNow_59 : decode c_Md_heavyNow 59 = .ok (.ior, 1) := by decide +kernel
theorem d_Md_heavyNow_60 : decode c_Md_heavyNow 60 = .ok (.istore_n 1, 1) := by decide +kernel
theorem d_Md_heavyNow_61 : decode c_Md_heavyNow 61 = .ok (.iinc 2 1, 3) := by decide +kernel
theorem d_Md_heavyNow_64 : decode c_Md_heavyNow 64 = .ok (.goto (-60), 3) := by decide +kernel
theorem d_Md_heavyNow_67 : decode c_Md_heavyNow 67 = .ok (.iload_n 1, 1) := by decide +kernel
theorem d_Md_heavyNow_68 : decode c_Md_heavyNow 68 = .ok (.ireturn, 1) := by decide +kernel
theorem d_Md_heavy_0 : decode c_Md_heavy 0 = .ok (.aload_n 0, 1) := by decide +kernel
theorem d_Md_heavy_1 : decode c_Md_heavy 1 = .ok (.invokevirtual 137, 3) := by decide +kernel
theorem d_Md_heavy_4 : decode c_Md_heavy 4 = .ok (.pop, 1) := by decide +kernel
theorem d_Md_heavy_5 : decode c_Md_heavy 5 = .ok (.aload_n 0, 1) := by decide +kernel
theorem d_Md_heavy_6 : decode c_Md_heavy 6 = .ok (.invokevirtual 249, 3) := by decide +kernel
theorem d_Md_heavy_9 : decode c_Md_heavy 9 = .ok (.ireturn, 1) := by decide +kernel
theorem d_Md_lot_0 : decode c_Md_lot 0 = .ok (.aload_n 0, 1) := by decide +kernel
theorem d_Md_lot_1 : decode c_Md_lot 1 = .ok (.ldc 252, 2) := by decide +kernel
theorem d_Md_lot_3 : decode c_Md_lot 3 = .ok (.aload_n 0, 1) := by decide +kernel
theorem d_Md_lot_4 : decode c_Md_lot 4 = .ok (.getfield 253, 3) := by decide +kernel
theorem d_Md_lot_7 : decode c_Md_lot 7 = .ok (.imul, 1) := by decide +kernel
theorem d_Md_lot_8 : decode c_Md_lot 8 = .ok (.sipush 12345, 3) := by decide +kernel
theorem d_Md_lot_11 : decode c_Md_lot 11 = .ok (.iadd, 1) := by decide +kernel
theorem d_Md_lot_12 : decode c_Md_lot 12 = .ok (.putfield 253, 3) := by decide +kernel
theorem d_Md_lot_15 : decode c_Md_lot 15 = .ok (.aload_n 0, 1) := by decide +kernel
theorem d_Md_lot_16 : decode c_Md_lot 16 = .ok (.getfield 253, 3) := by decide +kernel
theorem d_Md_lot_19 : decode c_Md_lot 19 = .ok (.bipush 16, 2) := by decide +kernel
theorem d_Md_lot_21 : decode c_Md_lot 21 = .ok (.iushr, 1) := by decide +kernel
theorem d_Md_lot_22 : decode c_Md_lot 22 = .ok (.iload_n 1, 1) := by decide +kernel
theorem d_Md_lot_23 : decode c_Md_lot 23 = .ok (.irem, 1) := by decide +kernel
theorem d_Md_lot_24 : decode c_Md_lot 24 = .ok (.ireturn, 1) := by decide +kernel
theorem d_Md_wind_0 : decode c_Md_wind 0 = .ok (.aload_n 0, 1) := by decide +kernel
theorem d_Md_wind_1 : decode c_Md_wind 1 = .ok (.invokevirtual 228, 3) := by decide +kernel
theorem d_Md_wind_4 : decode c_Md_wind 4 = .ok (.aload_n 0, 1) := by decide +kernel
theorem d_Md_wind_5 : decode c_Md_wind 5 = .ok (.iload_n 1, 1) := by decide +kernel
theorem d_Md_wind_6 : decode c_Md_wind 6 = .ok (.putfield 253, 3) := by decide +kernel
theorem d_Md_wind_9 : decode c_Md_wind 9 = .ok (.iconst 0, 1) := by decide +kernel
theorem d_Md_wind_10 : decode c_Md_wind 10 = .ok (.istore_n 2, 1) := by decide +kernel
theorem d_Md_wind_11 : decode c_Md_wind 11 = .ok (.iload_n 2, 1) := by decide +kernel
theorem d_Md_wind_12 : decode c_Md_wind 12 = .ok (.aload_n 0, 1) := by decide +kernel
theorem d_Md_wind_13 : decode c_Md_wind 13 = .ok (.getfield 209, 3) := by decide +kernel
theorem d_Md_wind_16 : decode c_Md_wind 16 = .ok (.if_icmp .ge 31, 3) := by decide +kernel
theorem d_Md_wind_19 : decode c_Md_wind 19 = .ok (.aload_n 0, 1) := by decide +kernel
theorem d_Md_wind_20 : decode c_Md_wind 20 = .ok (.iload_n 2, 1) := by decide +kernel
theorem d_Md_wind_21 : decode c_Md_wind 21 = .ok (.invokevirtual 219, 3) := by decide +kernel
theorem d_Md_wind_24 : decode c_Md_wind 24 = .ok (.ifCond .eq 17, 3) := by decide +kernel
theorem d_Md_wind_27 : decode c_Md_wind 27 = .ok (.aload_n 0, 1) := by decide +kernel
theorem d_Md_wind_28 : decode c_Md_wind 28 = .ok (.getfield 40, 3) := by decide +kernel
theorem d_Md_wind_31 : decode c_Md_wind 31 = .ok (.iload_n 2, 1) := by decide +kernel
theorem d_Md_wind_32 : decode c_Md_wind 32 = .ok (.dup2, 1) := by decide +kernel
theorem d_Md_wind_33 : decode c_Md_wind 33 = .ok (.iaload, 1) := by decide +kernel
theorem d_Md_wind_34 : decode c_Md_wind 34 = .ok (.aload_n 0, 1) := by decide +kernel
theorem d_Md_wind_35 : decode c_Md_wind 35 = .ok (.iconst 4, 1) := by decide +kernel
theorem d_Md_wind_36 : decode c_Md_wind 36 = .ok (.invokevirtual 256, 3) := by decide +kernel
theorem d_Md_wind_39 : decode c_Md_wind 39 = .ok (.iadd, 1) := by decide +kernel
theorem d_Md_wind_40 : decode c_Md_wind 40 = .ok (.iastore, 1) := by decide +kernel
theorem d_Md_wind_41 : decode c_Md_wind 41 = .ok (.iinc 2 1, 3) := by decide +kernel
theorem d_Md_wind_44 : decode c_Md_wind 44 = .ok (.goto (-33), 3) := by decide +kernel
theorem d_Md_wind_47 : decode c_Md_wind 47 = .ok (.aload_n 0, 1) := by decide +kernel
theorem d_Md_wind_48 : decode c_Md_wind 48 = .ok (.invokevirtual 234, 3) := by decide +kernel
theorem d_Md_wind_51 : decode c_Md_wind 51 = .ok (.ireturn, 1) := by decide +kernel
theorem d_Md_part_0 : decode c_Md_part 0 = .ok (.iload_n 1, 1) := by decide +kernel
theorem d_Md_part_1 : decode c_Md_part 1 = .ok (.invokestatic 189, 3) := by decide +kernel
theorem d_Md_part_4 : decode c_Md_part 4 = .ok (.ifCond .eq 15, 3) := by decide +kernel
theorem d_Md_part_7 : decode c_Md_part 7 = .ok (.iload_n 2, 1) := by decide +kernel
theorem d_Md_part_8 : decode c_Md_part 8 = .ok (.i2l, 1) := by decide +kernel
theorem d_Md_part_9 : decode c_Md_part 9 = .ok (.lconst 0, 1) := by decide +kernel
theorem d_Md_part_10 : decode c_Md_part 10 = .ok (.ldc2_w 91, 3) := by decide +kernel
theorem d_Md_part_13 : decode c_Md_part 13 = .ok (.invokestatic 73, 3) := by decide +kernel
theorem d_Md_part_16 : decode c_Md_part 16 = .ok (.ifCond .ne 6, 3) := by decide +kernel
theorem d_Md_part_19 : decode c_Md_part 19 = .ok (.bipush (-2), 2) := by decide +kernel
theorem d_Md_part_21 : decode c_Md_part 21 = .ok (.ireturn, 1) := by decide +kernel
theorem d_Md_part_22 : decode c_Md_part 22 = .ok (.aload_n 0, 1) := by decide +kernel
theorem d_Md_part_23 : decode c_Md_part 23 = .ok (.getfield 259, 3) := by decide +kernel
theorem d_Md_part_26 : decode c_Md_part 26 = .ok (.iconst 5, 1) := by decide +kernel
theorem d_Md_part_27 : decode c_Md_part 27 = .ok (.if_icmp .ne 6, 3) := by decide +kernel
theorem d_Md_part_30 : decode c_Md_part 30 = .ok (.bipush (-4), 2) := by decide +kernel
theorem d_Md_part_32 : decode c_Md_part 32 = .ok (.ireturn, 1) := by decide +kernel
theorem d_Md_part_33 : decode c_Md_part 33 = .ok (.aload_n 0, 1) := by decide +kernel
theorem d_Md_part_34 : decode c_Md_part 34 = .ok (.getfield 43, 3) := by decide +kernel
theorem d_Md_part_37 : decode c_Md_part 37 = .ok (.aload_n 0, 1) := by decide +kernel
theorem d_Md_part_38 : decode c_Md_part 38 = .ok (.getfield 259, 3) := by decide +kernel
theorem d_Md_part_41 : decode c_Md_part 41 = .ok (.iload_n 1, 1) := by decide +kernel
theorem d_Md_part_42 : decode c_Md_part 42 = .ok (.iastore, 1) := by decide +kernel
theorem d_Md_part_43 : decode c_Md_part 43 = .ok (.aload_n 0, 1) := by decide +kernel
theorem d_Md_part_44 : decode c_Md_part 44 = .ok (.getfield 46, 3) := by decide +kernel
theorem d_Md_part_47 : decode c_Md_part 47 = .ok (.aload_n 0, 1) := by decide +kernel
theorem d_Md_part_48 : decode c_Md_part 48 = .ok (.getfield 259, 3) := by decide +kernel
theorem d_Md_part_51 : decode c_Md_part 51 = .ok (.iload_n 2, 1) := by decide +kernel
theorem d_Md_part_52 : decode c_Md_part 52 = .ok (.iastore, 1) := by decide +kernel
theorem d_Md_part_53 : decode c_Md_part 53 = .ok (.aload_n 0, 1) := by decide +kernel
theorem d_Md_part_54 : decode c_Md_part 54 = .ok (.dup, 1) := by decide +kernel
theorem d_Md_part_55 : decode c_Md_part 55 = .ok (.getfield 259, 3) := by decide +kernel
theorem d_Md_part_58 : decode c_Md_part 58 = .ok (.iconst 1, 1) := by decide +kernel
theorem d_Md_part_59 : decode c_Md_part 59 = .ok (.iadd, 1) := by decide +kernel
theorem d_Md_part_60 : decode c_Md_part 60 = .ok (.putfield 259, 3) := by decide +kernel
theorem d_Md_part_63 : decode c_Md_part 63 = .ok (.aload_n 0, 1) := by decide +kernel
theorem d_Md_part_64 : decode c_Md_part 64 = .ok (.getfield 259, 3) := by decide +kernel
theorem d_Md_part_67 : decode c_Md_part 67 = .ok (.iconst 1, 1) := by decide +kernel
theorem d_Md_part_68 : decode c_Md_part 68 = .ok (.isub, 1) := by decide +kernel
theorem d_Md_part_69 : decode c_Md_part 69 = .ok (.ireturn, 1) := by decide +kernel
theorem d_Md_gone_0 : decode c_Md_gone 0 = .ok (.aload_n 0, 1) := by decide +kernel
theorem d_Md_gone_1 : decode c_Md_gone 1 = .ok (.getfield 259, 3) := by decide +kernel
theorem d_Md_gone_4 : decode c_Md_gone 4 = .ok (.istore_n 1, 1) := by decide +kernel
theorem d_Md_gone_5 : decode c_Md_gone 5 = .ok (.aload_n 0, 1) := by decide +kernel
theorem d_Md_gone_6 : decode c_Md_gone 6 = .ok (.iconst 0, 1) := by decide +kernel
theorem d_Md_gone_7 : decode c_Md_gone 7 = .ok (.putfield 259, 3) := by decide +kernel
theorem d_Md_gone_10 : decode c_Md_gone 10 = .ok (.iload_n 1, 1) := by decide +kernel
theorem d_Md_gone_11 : decode c_Md_gone 11 = .ok (.ireturn, 1) := by decide +kernel
theorem d_Md_mayGo_0 : decode c_Md_mayGo 0 = .ok (.iload_n 2, 1) := by decide +kernel
theorem d_Md_mayGo_1 : decode c_Md_mayGo 1 = .ok (.iload_n 3, 1) := by decide +kernel
theorem d_Md_mayGo_2 : decode c_Md_mayGo 2 = .ok (.if_icmp .eq 47, 3) := by decide +kernel
theorem d_Md_mayGo_5 : decode c_Md_mayGo 5 = .ok (.aload_n 0, 1) := by decide +kernel
theorem d_Md_mayGo_6 : decode c_Md_mayGo 6 = .ok (.getfield 28, 3) := by decide +kernel
theorem d_Md_mayGo_9 : decode c_Md_mayGo 9 = .ok (.bipush 6, 2) := by decide +kernel
theorem d_Md_mayGo_11 : decode c_Md_mayGo 11 = .ok (.iload_n 2, 1) := by decide +kernel
theorem d_Md_mayGo_12 : decode c_Md_mayGo 12 = .ok (.imul, 1) := by decide +kernel
theorem d_Md_mayGo_13 : decode c_Md_mayGo 13 = .ok (.iconst 2, 1) := by decide +kernel
theorem d_Md_mayGo_14 : decode c_Md_mayGo 14 = .ok (.iadd, 1) := by decide +kernel
theorem d_Md_mayGo_15 : decode c_Md_mayGo 15 = .ok (.iaload, 1) := by decide +kernel
theorem d_Md_mayGo_16 : decode c_Md_mayGo 16 = .ok (.aload_n 0, 1) := by decide +kernel
theorem d_Md_mayGo_17 : decode c_Md_mayGo 17 = .ok (.getfield 46, 3) := by decide +kernel
theorem d_Md_mayGo_20 : decode c_Md_mayGo 20 = .ok (.iload_n 1, 1) := by decide +kernel
theorem d_Md_mayGo_21 : decode c_Md_mayGo 21 = .ok (.iaload, 1) := by decide +kernel
theorem d_Md_mayGo_22 : decode c_Md_mayGo 22 = .ok (.if_icmp .ne 27, 3) := by decide +kernel
theorem d_Md_mayGo_25 : decode c_Md_mayGo 25 = .ok (.aload_n 0, 1) := by decide +kernel
theorem d_Md_mayGo_26 : decode c_Md_mayGo 26 = .ok (.getfield 28, 3) := by decide +kernel
theorem d_Md_mayGo_29 : decode c_Md_mayGo 29 = .ok (.bipush 6, 2) := by decide +kernel
theorem d_Md_mayGo_31 : decode c_Md_mayGo 31 = .ok (.iload_n 2, 1) := by decide +kernel
theorem d_Md_mayGo_32 : decode c_Md_mayGo 32 = .ok (.imul, 1) := by decide +kernel
theorem d_Md_mayGo_33 : decode c_Md_mayGo 33 = .ok (.iconst 3, 1) := by decide +kernel
theorem d_Md_mayGo_34 : decode c_Md_mayGo 34 = .ok (.iadd, 1) := by decide +kernel
theorem d_Md_mayGo_35 : decode c_Md_mayGo 35 = .ok (.iaload, 1) := by decide +kernel
theorem d_Md_mayGo_36 : decode c_Md_mayGo 36 = .ok (.aload_n 0, 1) := by decide +kernel
theorem d_Md_mayGo_37 : decode c_Md_mayGo 37 = .ok (.getfield 43, 3) := by decide +kernel
theorem d_Md_mayGo_40 : decode c_Md_mayGo 40 = .ok (.iload_n 1, 1) := by decide +kernel
theorem d_Md_mayGo_41 : decode c_Md_mayGo 41 = .ok (.iaload, 1) := by decide +kernel
theorem d_Md_mayGo_42 : decode c_Md_mayGo 42 = .ok (.if_icmp .lt 7, 3) := by decide +kernel
theorem d_Md_mayGo_45 : decode c_Md_mayGo 45 = .ok (.iconst 1, 1) := by decide +kernel
theorem d_Md_mayGo_46 : decode c_Md_mayGo 46 = .ok (.goto 4, 3) := by decide +kernel
theorem d_Md_mayGo_49 : decode c_Md_mayGo 49 = .ok (.iconst 0, 1) := by decide +kernel
theorem d_Md_mayGo_50 : decode c_Md_mayGo 50 = .ok (.ireturn, 1) := by decide +kernel
theorem d_Md_nextRope_0 : decode c_Md_nextRope 0 = .ok (.iload_n 2, 1) := by decide +kernel
theorem d_Md_nextRope_1 : decode c_Md_nextRope 1 = .ok (.iconst 1, 1) := by decide +kernel
theorem d_Md_nextRope_2 : decode c_Md_nextRope 2 = .ok (.iadd, 1) := by decide +kernel
theorem d_Md_nextRope_3 : decode c_Md_nextRope 3 = .ok (.istore 5, 2) := by decide +kernel
theorem d_Md_nextRope_5 : decode c_Md_nextRope 5 = .ok (.iload 5, 2) := by decide +kernel
theorem d_Md_nextRope_7 : decode c_Md_nextRope 7 = .ok (.iload_n 3, 1) := by decide +kernel
theorem d_Md_nextRope_8 : decode c_Md_nextRope 8 = .ok (.if_icmp .ge 24, 3) := by decide +kernel
theorem d_Md_nextRope_11 : decode c_Md_nextRope 11 = .ok (.aload_n 0, 1) := by decide +kernel
theorem d_Md_nextRope_12 : decode c_Md_nextRope 12 = .ok (.iload_n 1, 1) := by decide +kernel
theorem d_Md_nextRope_13 : decode c_Md_nextRope 13 = .ok (.iload 5, 2) := by decide +kernel
theorem d_Md_nextRope_15 : decode c_Md_nextRope 15 = .ok (.iload 4, 2) := by decide +kernel
theorem d_Md_nextRope_17 : decode c_Md_nextRope 17 = .ok (.invokevirtual 262, 3) := by decide +kernel
theorem d_Md_nextRope_20 : decode c_Md_nextRope 20 = .ok (.ifCond .eq 6, 3) := by decide +kernel
theorem d_Md_nextRope_23 : decode c_Md_nextRope 23 = .ok (.iload 5, 2) := by decide +kernel
theorem d_Md_nextRope_25 : decode c_Md_nextRope 25 = .ok (.ireturn, 1) := by decide +kernel
theorem d_Md_nextRope_26 : decode c_Md_nextRope 26 = .ok (.iinc 5 1, 3) := by decide +kernel
theorem d_Md_nextRope_29 : decode c_Md_nextRope 29 = .ok (.goto (-24), 3) := by decide +kernel
theorem d_Md_nextRope_32 : decode c_Md_nextRope 32 = .ok (.iconst (-1), 1) := by decide +kernel
theorem d_Md_nextRope_33 : decode c_Md_nextRope 33 = .ok (.ireturn, 1) := by decide +kernel
def f_Md_putOff (σ : Sg) (v1 : Int32) : Option (Int32 × Sg) :=
  if (f_Md_isTrip σ v1) = 0 then
    some ((-2), σ)
  else
    (f_Md_findPutOff σ).bind fun σ3 =>
      (f_Md_counts σ3 v1).bind fun r5 =>
        if r5 = 0 then
          some ((-1), σ3)
        else
          gd (vin v1 20) (
            some (σ3.1 77 v1.toNatClampNeg, σ3))
set_option maxHeartbeats 4000000 in
theorem j_Md_putOff {V : Vx} {X : Xx} {r : Int32} {σ' : Sg} (σ : Sg) (v1 : Int32) (hf : f_Md_putOff σ v1 = some (r, σ')) : J V X (k2_rm 7 159) c_Md_putOff R_Md 2 (some .int) (Qr V X (some (.int r)) σ') σ 0 [(0, rf V 66), (1, .int v1)] [] := by
  unfold f_Md_putOff at hf
  refine J_aload_n (pc' := 1) d_Md_putOff_0 rfl 0 rfl ?_
  refine J_iload_n (pc' := 2) d_Md_putOff_1 rfl 1 rfl ?_
  refine J_V (pc' := 5) (as := [.int v1]) (rest := []) (st' := [.int (f_Md_isTrip σ v1)]) d_Md_putOff_2 rfl sh_66 rfl mv_Md_225 (ct_Md_isTrip V _ σ v1) rfl rfl ⟨Nat.le_of_ble_eq_true rfl, Nat.le_of_ble_eq_true rfl⟩ ⟨rfl, rfl⟩ (Nat.le_of_ble_eq_true rfl) rfl ?_
  refine J_if_ne (pc' := 8) (tgt := 11) d_Md_putOff_5 rfl (by decide) (fun hc1 => ?_) (fun hc1 => ?_)
  · have hf := brF hc1 hf
    refine J_aload_n (pc' := 12) d_Md_putOff_11 rfl 0 rfl ?_
    obtain ⟨σ3, hq2, hf⟩ := bpE hf
    refine J_V (pc' := 15) (as := []) (rest := []) (st' := []) d_Md_putOff_12 rfl sh_66 rfl mv_Md_243 (ct_Md_findPutOff V _ σ hq2) rfl rfl ⟨Nat.le_of_ble_eq_true rfl, Nat.le_of_ble_eq_true rfl⟩ ⟨rfl, rfl⟩ (Nat.le_of_ble_eq_true rfl) rfl ?_
    refine J_aload_n (pc' := 16) d_Md_putOff_15 rfl 0 rfl ?_
    refine J_iload_n (pc' := 17) d_Md_putOff_16 rfl 1 rfl ?_
    obtain ⟨r5, hq4, hf⟩ := bpE hf
    refine J_V (pc' := 20) (as := [.int v1]) (rest := []) (st' := [.int r5]) d_Md_putOff_17 rfl sh_66 rfl mv_Md_219 (ct_Md_counts V _ σ3 v1 hq4) rfl rfl ⟨Nat.le_of_ble_eq_true rfl, Nat.le_of_ble_eq_true rfl⟩ ⟨rfl, rfl⟩ (Nat.le_of_ble_eq_true rfl) rfl ?_
    refine J_if_eq (pc' := 23) (tgt := 32) d_Md_putOff_20 rfl (by decide) (fun hc6 => ?_) (fun hc6 => ?_)
    · have hf := brT hc6 hf
      refine J_iconst (pc' := 33) (v := (-1)) d_Md_putOff_32 rfl ic_m1 ?_
      obtain ⟨rfl, rfl⟩ := resE hf
      exact J_iret d_Md_putOff_33
    · have hf := brF hc6 hf
      refine J_aload_n (pc' := 24) d_Md_putOff_23 rfl 0 rfl ?_
      refine J_getR (pc' := 27) d_Md_putOff_24 rfl sh_66 fl_Md_40 rfl ?_
      refine J_iload_n (pc' := 28) d_Md_putOff_27 rfl 1 rfl ?_
      obtain ⟨hg7, hf⟩ := gdE hf
      refine J_ial (pc' := 29) d_Md_putOff_28 rfl sh_77 (vinP hg7) ?_
      refine J_goto (tgt := 33) d_Md_putOff_29 (by decide) ?_
      obtain ⟨rfl, rfl⟩ := resE hf
      exact J_iret d_Md_putOff_33
  · have hf := brT hc1 hf
    refine J_bipush (pc' := 10) (v := (-2)) d_Md_putOff_8 rfl bc_m2 ?_
    obtain ⟨rfl, rfl⟩ := resE hf
    exact J_iret d_Md_putOff_10
theorem ct_Md_putOff (V : Vx) (l : Launch) (σ : Sg) (v1 : Int32) {r : Int32} {σ' : Sg} (hf : f_Md_putOff σ v1 = some (r, σ')) : Ct V l y_Md_putOff c_Md_putOff 2 (some .int) (k2_rm 7 159) [rf V 66, .int v1] σ (some (.int r)) σ' := Ct.ofJ (by decide +kernel) (Nat.le_of_ble_eq_true rfl) fun X _ => j_Md_putOff _ v1 hf
def f_Md_frayedOf_78 (k5 : Sg → Int32 → Int32 → Int32 → Int32 → Option Int32) (σ : Sg) (v1 : Int32) (v2 : Int32) (v3 : Int32) (v4 : Int32) : Option Int32 :=
  k5 σ v1 v2 v3 (v4 + 1)
set_option maxHeartbeats 4000000 in
theorem j_Md_frayedOf_78 {V : Vx} {X : Xx} {σ : Sg} {r : Int32} {k5 : Sg → Int32 → Int32 → Int32 → Int32 → Option Int32} (hk5 : ∀ (v1 : Int32) (v2 : Int32) (v3 : Int32) (v4 : Int32), k5 σ v1 v2 v3 v4 = some r → J V X (k2_rm 0 0) c_Md_frayedOf R_Md 5 (some .int) (Qr V X (some (.int r)) σ) σ 5 [(0, rf V 66), (1, .int v1), (2, .int v2), (3, .int v3), (4, .int v4)] []) (v1 : Int32) (v2 : Int32) (v3 : Int32) (v4 : Int32) (hf : f_Md_frayedOf_78 k5 σ v1 v2 v3 v4 = some r) : J V X (k2_rm 0 0) c_Md_frayedOf R_Md 5 (some .int) (Qr V X (some (.int r)) σ) σ 78 [(0, rf V 66), (1, .int v1), (2, .int v2), (3, .int v3), (4, .int v4)] [] := by
  unfold f_Md_frayedOf_78 at hf
  refine J_iinc (pc' := 81) (j := 4) (v := 1) (lv' := [(4, .int (v4 + 1)), (0, rf V 66), (1, .int v1), (2, .int v2), (3, .int v3)]) d_Md_frayedOf_78 rfl rfl ic_1 (by decide) rfl ?_
  refine J_goto (tgt := 5) d_Md_frayedOf_81 (by decide) ?_
  refine J_pick [1, 2, 3, 4, 0] rfl ?_
  exact hk5 _ _ _ _ hf
def f_Md_frayedOf_45 (k5 : Sg → Int32 → Int32 → Int32 → Int32 → Option Int32) (σ : Sg) (v1 : Int32) (v2 : Int32) (v4 : Int32) (s0 : Int32) (s1 : Int32) : Option Int32 :=
  if v2 = 1 then
    gd (vin (5 * v4) 100) (
      if (σ.1 76 (5 * v4).toNatClampNeg) = v1 then
        if (s1 + s0) ≤ (σ.1 75 1) then f_Md_frayedOf_78 k5 σ v1 v2 (s1 + s0) v4 else some v4
      else
        f_Md_frayedOf_78 k5 σ v1 v2 (s1 + s0) v4)
  else
    f_Md_frayedOf_78 k5 σ v1 v2 (s1 + s0) v4
set_option maxHeartbeats 4000000 in
theorem j_Md_frayedOf_45 {V : Vx} {X : Xx} {σ : Sg} {r : Int32} {k5 : Sg → Int32 → Int32 → Int32 → Int32 → Option Int32} (hk5 : ∀ (v1 : Int32) (v2 : Int32) (v3 : Int32) (v4 : Int32), k5 σ v1 v2 v3 v4 = some r → J V X (k2_rm 0 0) c_Md_frayedOf R_Md 5 (some .int) (Qr V X (some (.int r)) σ) σ 5 [(0, rf V 66), (1, .int v1), (2, .int v2), (3, .int v3), (4, .int v4)] []) (v1 : Int32) (v2 : Int32) (v4 : Int32) (s0 : Int32) (s1 : Int32) (hf : f_Md_frayedOf_45 k5 σ v1 v2 v4 s0 s1 = some r) : J V X (k2_rm 0 0) c_Md_frayedOf R_Md 5 (some .int) (Qr V X (some (.int r)) σ) σ 45 [(0, rf V 66), (1, .int v1), (2, .int v2), (4, .int v4)] [.int s0, .int s1] := by
  unfold f_Md_frayedOf_45 at hf
  refine J_iadd (pc' := 46) d_Md_frayedOf_45 rfl ?_
  refine J_istore_n (pc' := 47) (lv' := [(3, .int (s1 + s0)), (0, rf V 66), (1, .int v1), (2, .int v2), (4, .int v4)]) d_Md_frayedOf_46 rfl rfl (by decide) rfl ?_
  refine J_iload_n (pc' := 48) d_Md_frayedOf_47 rfl 3 rfl ?_
  refine J_iconst (pc' := 49) (v := 1) d_Md_frayedOf_48 rfl ic_1 ?_
  refine J_icmp_ne (pc' := 52) (tgt := 78) d_Md_frayedOf_49 rfl (by decide) (fun hc5 => ?_) (fun hc5 => ?_)
  · have hf := brF hc5 hf
    refine J_pick [1, 2, 3, 0, 4] rfl ?_
    exact j_Md_frayedOf_78 hk5 _ _ _ _ hf
  · have hf := brT hc5 hf
    refine J_aload_n (pc' := 53) d_Md_frayedOf_52 rfl 1 rfl ?_
    refine J_getR (pc' := 56) d_Md_frayedOf_53 rfl sh_66 fl_Md_37 rfl ?_
    refine J_iconst (pc' := 57) (v := 5) d_Md_frayedOf_56 rfl ic_5 ?_
    refine J_iload (pc' := 59) d_Md_frayedOf_57 rfl 4 rfl ?_
    refine J_imul (pc' := 60) d_Md_frayedOf_59 rfl ?_
    obtain ⟨hg6, hf⟩ := gdE hf
    refine J_ial (pc' := 61) d_Md_frayedOf_60 rfl sh_76 (vinP hg6) ?_
    refine J_iload_n (pc' := 62) d_Md_frayedOf_61 rfl 2 rfl ?_
    refine J_icmp_ne (pc' := 65) (tgt := 78) d_Md_frayedOf_62 rfl (by decide) (fun hc7 => ?_) (fun hc7 => ?_)
    · have hf := brF hc7 hf
      refine J_pick [1, 2, 3, 0, 4] rfl ?_
      exact j_Md_frayedOf_78 hk5 _ _ _ _ hf
    · have hf := brT hc7 hf
      refine J_iload_n (pc' := 66) d_Md_frayedOf_65 rfl 0 rfl ?_
      refine J_aload_n (pc' := 67) d_Md_frayedOf_66 rfl 1 rfl ?_
      refine J_getR (pc' := 70) d_Md_frayedOf_67 rfl sh_66 fl_Md_34 rfl ?_
      refine J_iconst (pc' := 71) (v := 1) d_Md_frayedOf_70 rfl ic_1 ?_
      refine J_ial (pc' := 72) d_Md_frayedOf_71 rfl sh_75 (vin_c (by decide)) ?_
      refine J_icmp_le (pc' := 75) (tgt := 78) d_Md_frayedOf_72 rfl (by decide) (fun hc8 => ?_) (fun hc8 => ?_)
      · have hf := brT hc8 hf
        refine J_pick [1, 2, 3, 0, 4] rfl ?_
        exact j_Md_frayedOf_78 hk5 _ _ _ _ hf
      · have hf := brF hc8 hf
        refine J_iload (pc' := 77) d_Md_frayedOf_75 rfl 4 rfl ?_
        obtain rfl := Option.some.inj hf
        exact J_iret d_Md_frayedOf_77
def f_Md_frayedOf_5 : Nat → Sg → Int32 → Int32 → Int32 → Int32 → Option Int32
  | 0, _, _, _, _, _ => none
  | n + 1, σ, v1, v2, v3, v4 =>
    if (σ.1 66 14) ≤ v4 then
      if v2 = 0 then some v3 else some (-1)
    else
      gd (vin (5 * v4) 100) (
        if (σ.1 76 (5 * v4).toNatClampNeg) = v1 then
          gd (vin ((5 * v4) + 3) 100) (
            f_Md_frayedOf_45 (f_Md_frayedOf_5 n) σ v1 v2 v4 ((σ.1 76 ((5 * v4) + 3).toNatClampNeg) + 1) v3)
        else
          f_Md_frayedOf_45 (f_Md_frayedOf_5 n) σ v1 v2 v4 0 v3)
theorem f_Md_frayedOf_5_s (n : Nat) (σ : Sg) (v1 : Int32) (v2 : Int32) (v3 : Int32) (v4 : Int32) : f_Md_frayedOf_5 (n + 1) σ v1 v2 v3 v4 =
    if (σ.1 66 14) ≤ v4 then
      if v2 = 0 then some v3 else some (-1)
    else
      gd (vin (5 * v4) 100) (
        if (σ.1 76 (5 * v4).toNatClampNeg) = v1 then
          gd (vin ((5 * v4) + 3) 100) (
            f_Md_frayedOf_45 (f_Md_frayedOf_5 n) σ v1 v2 v4 ((σ.1 76 ((5 * v4) + 3).toNatClampNeg) + 1) v3)
        else
          f_Md_frayedOf_45 (f_Md_frayedOf_5 n) σ v1 v2 v4 0 v3) := rfl
set_option maxHeartbeats 4000000 in
theorem j_Md_frayedOf_5 {V : Vx} {X : Xx} {σ : Sg} {r : Int32}  : ∀ (n : Nat) (v1 : Int32) (v2 : Int32) (v3 : Int32) (v4 : Int32), f_Md_frayedOf_5 n σ v1 v2 v3 v4 = some r → J V X (k2_rm 0 0) c_Md_frayedOf R_Md 5 (some .int) (Qr V X (some (.int r)) σ) σ 5 [(0, rf V 66), (1, .int v1), (2, .int v2), (3, .int v3), (4, .int v4)] [] := by
  intro n
  induction n with
  | zero => intro v1 v2 v3 v4 hf; exact nn hf
  | succ n ih =>
    intro v1 v2 v3 v4 hf
    rw [f_Md_frayedOf_5_s] at hf
    refine J_iload (pc' := 7) d_Md_frayedOf_5 rfl 4 rfl ?_
    refine J_aload_n (pc' := 8) d_Md_frayedOf_7 rfl 0 rfl ?_
    refine J_getI (pc' := 11) d_Md_frayedOf_8 rfl sh_66 fl_Md_209 rfl ?_
    refine J_icmp_ge (pc' := 14) (tgt := 84) d_Md_frayedOf_11 rfl (by decide) (fun hc1 => ?_) (fun hc1 => ?_)
    · have hf := brT hc1 hf
      refine J_iload_n (pc' := 85) d_Md_frayedOf_84 rfl 2 rfl ?_
      refine J_if_ne (pc' := 88) (tgt := 92) d_Md_frayedOf_85 rfl (by decide) (fun hc2 => ?_) (fun hc2 => ?_)
      · have hf := brF hc2 hf
        refine J_iconst (pc' := 93) (v := (-1)) d_Md_frayedOf_92 rfl ic_m1 ?_
        obtain rfl := Option.some.inj hf
        exact J_iret d_Md_frayedOf_93
      · have hf := brT hc2 hf
        refine J_iload_n (pc' := 89) d_Md_frayedOf_88 rfl 3 rfl ?_
        refine J_goto (tgt := 93) d_Md_frayedOf_89 (by decide) ?_
        obtain rfl := Option.some.inj hf
        exact J_iret d_Md_frayedOf_93
    · have hf := brF hc1 hf
      refine J_iload_n (pc' := 15) d_Md_frayedOf_14 rfl 3 rfl ?_
      refine J_aload_n (pc' := 16) d_Md_frayedOf_15 rfl 0 rfl ?_
      refine J_getR (pc' := 19) d_Md_frayedOf_16 rfl sh_66 fl_Md_37 rfl ?_
      refine J_iconst (pc' := 20) (v := 5) d_Md_frayedOf_19 rfl ic_5 ?_
      refine J_iload (pc' := 22) d_Md_frayedOf_20 rfl 4 rfl ?_
      refine J_imul (pc' := 23) d_Md_frayedOf_22 rfl ?_
      obtain ⟨hg3, hf⟩ := gdE hf
      refine J_ial (pc' := 24) d_Md_frayedOf_23 rfl sh_76 (vinP hg3) ?_
      refine J_iload_n (pc' := 25) d_Md_frayedOf_24 rfl 1 rfl ?_
      refine J_icmp_ne (pc' := 28) (tgt := 44) d_Md_frayedOf_25 rfl (by decide) (fun hc4 => ?_) (fun hc4 => ?_)
      · have hf := brF hc4 hf
        refine J_iconst (pc' := 45) (v := 0) d_Md_frayedOf_44 rfl ic_0 ?_
        refine J_pick [0, 1, 2, 4] rfl ?_
        exact j_Md_frayedOf_45 ih _ _ _ _ _ hf
      · have hf := brT hc4 hf
        refine J_aload_n (pc' := 29) d_Md_frayedOf_28 rfl 0 rfl ?_
        refine J_getR (pc' := 32) d_Md_frayedOf_29 rfl sh_66 fl_Md_37 rfl ?_
        refine J_iconst (pc' := 33) (v := 5) d_Md_frayedOf_32 rfl ic_5 ?_
        refine J_iload (pc' := 35) d_Md_frayedOf_33 rfl 4 rfl ?_
        refine J_imul (pc' := 36) d_Md_frayedOf_35 rfl ?_
        refine J_iconst (pc' := 37) (v := 3) d_Md_frayedOf_36 rfl ic_3 ?_
        refine J_iadd (pc' := 38) d_Md_frayedOf_37 rfl ?_
        obtain ⟨hg9, hf⟩ := gdE hf
        refine J_ial (pc' := 39) d_Md_frayedOf_38 rfl sh_76 (vinP hg9) ?_
        refine J_iconst (pc' := 40) (v := 1) d_Md_frayedOf_39 rfl ic_1 ?_
        refine J_iadd (pc' := 41) d_Md_frayedOf_40 rfl ?_
        refine J_goto (tgt := 45) d_Md_frayedOf_41 (by decide) ?_
        refine J_pick [0, 1, 2, 4] rfl ?_
        exact j_Md_frayedOf_45 ih _ _ _ _ _ hf
def f_Md_frayedOf (σ : Sg) (v1 : Int32) (v2 : Int32) : Option Int32 :=
  f_Md_frayedOf_5 FU σ v1 v2 0 0
set_option maxHeartbeats 4000000 in
theorem j_Md_frayedOf {V : Vx} {X : Xx} {r : Int32} (σ : Sg) (v1 : Int32) (v2 : Int32) (hf : f_Md_frayedOf σ v1 v2 = some r) : J V X (k2_rm 0 0) c_Md_frayedOf R_Md 5 (some .int) (Qr V X (some (.int r)) σ) σ 0 [(0, rf V 66), (1, .int v1), (2, .int v2)] [] := by
  unfold f_Md_frayedOf at hf
  refine J_iconst (pc' := 1) (v := 0) d_Md_frayedOf_0 rfl ic_0 ?_
  refine J_istore_n (pc' := 2) (lv' := [(3, .int 0), (0, rf V 66), (1, .int v1), (2, .int v2)]) d_Md_frayedOf_1 rfl rfl (by decide) rfl ?_
  refine J_iconst (pc' := 3) (v := 0) d_Md_frayedOf_2 rfl ic_0 ?_
  refine J_istore (pc' := 5) (lv' := [(4, .int 0), (3, .int 0), (0, rf V 66), (1, .int v1), (2, .int v2)]) d_Md_frayedOf_3 rfl (by decide) rfl ?_
  refine J_pick [2, 3, 4, 1, 0] rfl ?_
  exact j_Md_frayedOf_5 FU _ _ _ _ hf
theorem ct_Md_frayedOf (V : Vx) (l : Launch) (σ : Sg) (v1 : Int32) (v2 : Int32) {r : Int32} (hf : f_Md_frayedOf σ v1 v2 = some r) : Ct V l y_Md_frayedOf c_Md_frayedOf 5 (some .int) (k2_rm 0 0) [rf V 66, .int v1, .int v2] σ (some (.int r)) σ := Ct.ofJ (by decide +kernel) (Nat.le_of_ble_eq_true rfl) fun X _ => j_Md_frayedOf _ v1 v2 hf
def f_Md_frayed (σ : Sg) (v1 : Int32) (v2 : Int32) : Option (Int32 × Sg) :=
  bd (f_Md_hasRope σ v1) fun r3 σ2 =>
    if r3 = 0 then
      some ((-2), σ2)
    else
      if (f_Md_isTwo v2) = 0 then
        some ((-2), σ2)
      else
        (f_Md_frayedOf σ2 v1 v2).bind fun r7 =>
          some (r7, σ2)
set_option maxHeartbeats 4000000 in
theorem j_Md_frayed {V : Vx} {X : Xx} {r : Int32} {σ' : Sg} (σ : Sg) (v1 : Int32) (v2 : Int32) (hf : f_Md_frayed σ v1 v2 = some (r, σ')) : J V X (k2_rm 5 112) c_Md_frayed R_Md 3 (some .int) (Qr V X (some (.int r)) σ') σ 0 [(0, rf V 66), (1, .int v1), (2, .int v2)] [] := by
  unfold f_Md_frayed at hf
  refine J_aload_n (pc' := 1) d_Md_frayed_0 rfl 0 rfl ?_
  refine J_iload_n (pc' := 2) d_Md_frayed_1 rfl 1 rfl ?_
  obtain ⟨r3, σ2, hq1, hf⟩ := bdE hf
  refine J_V (pc' := 5) (as := [.int v1]) (rest := []) (st' := [.int r3]) d_Md_frayed_2 rfl sh_66 rfl mv_Md_143 (ct_Md_hasRope V _ σ v1 hq1) rfl rfl ⟨Nat.le_of_ble_eq_true rfl, Nat.le_of_ble_eq_true rfl⟩ ⟨rfl, rfl⟩ (Nat.le_of_ble_eq_true rfl) rfl ?_
  refine J_if_eq (pc' := 8) (tgt := 24) d_Md_frayed_5 rfl (by decide) (fun hc4 => ?_) (fun hc4 => ?_)
  · have hf := brT hc4 hf
    refine J_bipush (pc' := 26) (v := (-2)) d_Md_frayed_24 rfl bc_m2 ?_
    obtain ⟨rfl, rfl⟩ := resE hf
    exact J_iret d_Md_frayed_26
  · have hf := brF hc4 hf
    refine J_iload_n (pc' := 9) d_Md_frayed_8 rfl 2 rfl ?_
    refine J_S (pc' := 12) (as := [.int v2]) (rest := []) (st' := [.int (f_Md_isTwo v2)]) d_Md_frayed_9 rfl ms_Md_106 (ct_Md_isTwo V _ σ2 v2) rfl rfl ⟨Nat.le_of_ble_eq_true rfl, Nat.le_of_ble_eq_true rfl⟩ ⟨rfl, rfl⟩ (Nat.le_of_ble_eq_true rfl) rfl ?_
    refine J_if_eq (pc' := 15) (tgt := 24) d_Md_frayed_12 rfl (by decide) (fun hc5 => ?_) (fun hc5 => ?_)
    · have hf := brT hc5 hf
      refine J_bipush (pc' := 26) (v := (-2)) d_Md_frayed_24 rfl bc_m2 ?_
      obtain ⟨rfl, rfl⟩ := resE hf
      exact J_iret d_Md_frayed_26
    · have hf := brF hc5 hf
      refine J_aload_n (pc' := 16) d_Md_frayed_15 rfl 0 rfl ?_
      refine J_iload_n (pc' := 17) d_Md_frayed_16 rfl 1 rfl ?_
      refine J_iload_n (pc' := 18) d_Md_frayed_17 rfl 2 rfl ?_
      obtain ⟨r7, hq6, hf⟩ := bpE hf
      refine J_V (pc' := 21) (as := [.int v1, .int v2]) (rest := []) (st' := [.int r7]) d_Md_frayed_18 rfl sh_66 rfl mv_Md_246 (ct_Md_frayedOf V _ σ2 v1 v2 hq6) rfl rfl ⟨Nat.le_of_ble_eq_true rfl, Nat.le_of_ble_eq_true rfl⟩ ⟨rfl, rfl⟩ (Nat.le_of_ble_eq_true rfl) rfl ?_
      refine J_goto (tgt := 26) d_Md_frayed_21 (by decide) ?_
      obtain ⟨rfl, rfl⟩ := resE hf
      exact J_iret d_Md_frayed_26
theorem ct_Md_frayed (V : Vx) (l : Launch) (σ : Sg) (v1 : Int32) (v2 : Int32) {r : Int32} {σ' : Sg} (hf : f_Md_frayed σ v1 v2 = some (r, σ')) : Ct V l y_Md_frayed c_Md_frayed 3 (some .int) (k2_rm 5 112) [rf V 66, .int v1, .int v2] σ (some (.int r)) σ' := Ct.ofJ (by decide +kernel) (Nat.le_of_ble_eq_true rfl) fun X _ => j_Md_frayed _ v1 v2 hf
def f_Md_yet (σ : Sg) (v1 : Int32) (v2 : Int32) : Option (Int32 × Sg) :=
  bd (f_Md_hasRope σ v1) fun r3 σ2 =>
    if r3 = 0 then
      some ((-2), σ2)
    else
      if (f_Md_isFigure v2) = 0 then
        some ((-2), σ2)
      else
        (f_Md_frayedOf σ2 v1 0).bind fun r7 =>
          if 0 ≤ ((σ2.1 75 1) - r7) then
            gd (decide (¬ v2 + 1 = 0)) (
              some (((σ2.1 75 1) - r7) / (v2 + 1), σ2))
          else
            some (0, σ2)
set_option maxHeartbeats 4000000 in
theorem j_Md_yet {V : Vx} {X : Xx} {r : Int32} {σ' : Sg} (σ : Sg) (v1 : Int32) (v2 : Int32) (hf : f_Md_yet σ v1 v2 = some (r, σ')) : J V X (k2_rm 5 112) c_Md_yet R_Md 4 (some .int) (Qr V X (some (.int r)) σ') σ 0 [(0, rf V 66), (1, .int v1), (2, .int v2)] [] := by
  unfold f_Md_yet at hf
  refine J_aload_n (pc' := 1) d_Md_yet_0 rfl 0 rfl ?_
  refine J_iload_n (pc' := 2) d_Md_yet_1 rfl 1 rfl ?_
  obtain ⟨r3, σ2, hq1, hf⟩ := bdE hf
  refine J_V (pc' := 5) (as := [.int v1]) (rest := []) (st' := [.int r3]) d_Md_yet_2 rfl sh_66 rfl mv_Md_143 (ct_Md_hasRope V _ σ v1 hq1) rfl rfl ⟨Nat.le_of_ble_eq_true rfl, Nat.le_of_ble_eq_true rfl⟩ ⟨rfl, rfl⟩ (Nat.le_of_ble_eq_true rfl) rfl ?_
  refine J_if_eq (pc' := 8) (tgt := 15) d_Md_yet_5 rfl (by decide) (fun hc4 => ?_) (fun hc4 => ?_)
  · have hf := brT hc4 hf
    refine J_bipush (pc' := 17) (v := (-2)) d_Md_yet_15 rfl bc_m2 ?_
    obtain ⟨rfl, rfl⟩ := resE hf
    exact J_iret d_Md_yet_17
  · have hf := brF hc4 hf
    refine J_iload_n (pc' := 9) d_Md_yet_8 rfl 2 rfl ?_
    refine J_S (pc' := 12) (as := [.int v2]) (rest := []) (st' := [.int (f_Md_isFigure v2)]) d_Md_yet_9 rfl ms_Md_189 (ct_Md_isFigure V _ σ2 v2) rfl rfl ⟨Nat.le_of_ble_eq_true rfl, Nat.le_of_ble_eq_true rfl⟩ ⟨rfl, rfl⟩ (Nat.le_of_ble_eq_true rfl) rfl ?_
    refine J_if_ne (pc' := 15) (tgt := 18) d_Md_yet_12 rfl (by decide) (fun hc5 => ?_) (fun hc5 => ?_)
    · have hf := brF hc5 hf
      refine J_aload_n (pc' := 19) d_Md_yet_18 rfl 0 rfl ?_
      refine J_getR (pc' := 22) d_Md_yet_19 rfl sh_66 fl_Md_34 rfl ?_
      refine J_iconst (pc' := 23) (v := 1) d_Md_yet_22 rfl ic_1 ?_
      refine J_ial (pc' := 24) d_Md_yet_23 rfl sh_75 (vin_c (by decide)) ?_
      refine J_aload_n (pc' := 25) d_Md_yet_24 rfl 0 rfl ?_
      refine J_iload_n (pc' := 26) d_Md_yet_25 rfl 1 rfl ?_
      refine J_iconst (pc' := 27) (v := 0) d_Md_yet_26 rfl ic_0 ?_
      obtain ⟨r7, hq6, hf⟩ := bpE hf
      refine J_V (pc' := 30) (as := [.int v1, .int 0]) (rest := [.int (σ2.1 75 1)]) (st' := [.int r7, .int (σ2.1 75 1)]) d_Md_yet_27 rfl sh_66 rfl mv_Md_246 (ct_Md_frayedOf V _ σ2 v1 0 hq6) rfl rfl ⟨Nat.le_of_ble_eq_true rfl, Nat.le_of_ble_eq_true rfl⟩ ⟨rfl, rfl⟩ (Nat.le_of_ble_eq_true rfl) rfl ?_
      refine J_isub (pc' := 31) d_Md_yet_30 rfl ?_
      refine J_istore_n (pc' := 32) (lv' := [(3, .int ((σ2.1 75 1) - r7)), (0, rf V 66), (1, .int v1), (2, .int v2)]) d_Md_yet_31 rfl rfl (by decide) rfl ?_
      refine J_iload_n (pc' := 33) d_Md_yet_32 rfl 0 rfl ?_
      refine J_if_ge (pc' := 36) (tgt := 40) d_Md_yet_33 rfl (by decide) (fun hc8 => ?_) (fun hc8 => ?_)
      · have hf := brT hc8 hf
        refine J_iload_n (pc' := 41) d_Md_yet_40 rfl 0 rfl ?_
        refine J_iload_n (pc' := 42) d_Md_yet_41 rfl 3 rfl ?_
        refine J_iconst (pc' := 43) (v := 1) d_Md_yet_42 rfl ic_1 ?_
        refine J_iadd (pc' := 44) d_Md_yet_43 rfl ?_
        obtain ⟨hg9, hf⟩ := gdE hf
        refine J_idiv (pc' := 45) d_Md_yet_44 rfl (of_decide_eq_true hg9) ?_
        obtain ⟨rfl, rfl⟩ := resE hf
        exact J_iret d_Md_yet_45
      · have hf := brF hc8 hf
        refine J_iconst (pc' := 37) (v := 0) d_Md_yet_36 rfl ic_0 ?_
        refine J_goto (tgt := 45) d_Md_yet_37 (by decide) ?_
        obtain ⟨rfl, rfl⟩ := resE hf
        exact J_iret d_Md_yet_45
    · have hf := brT hc5 hf
      refine J_bipush (pc' := 17) (v := (-2)) d_Md_yet_15 rfl bc_m2 ?_
      obtain ⟨rfl, rfl⟩ := resE hf
      exact J_iret d_Md_yet_17
theorem ct_Md_yet (V : Vx) (l : Launch) (σ : Sg) (v1 : Int32) (v2 : Int32) {r : Int32} {σ' : Sg} (hf : f_Md_yet σ v1 v2 = some (r, σ')) : Ct V l y_Md_yet c_Md_yet 4 (some .int) (k2_rm 5 112) [rf V 66, .int v1, .int v2] σ (some (.int r)) σ' := Ct.ofJ (by decide +kernel) (Nat.le_of_ble_eq_true rfl) fun X _ => j_Md_yet _ v1 v2 hf
def f_Md_heavyNow_59 (k4 : Sg → Int32 → Int32 → Option Int32) (σ : Sg) (v2 : Int32) (s0 : Int32) (s1 : Int32) : Option Int32 :=
  k4 σ (s1 ||| s0) (v2 + 1)
set_option maxHeartbeats 4000000 in
theorem j_Md_heavyNow_59 {V : Vx} {X : Xx} {σ : Sg} {r : Int32} {k4 : Sg → Int32 → Int32 → Option Int32} (hk4 : ∀ (v1 : Int32) (v2 : Int32), k4 σ v1 v2 = some r → J V X (k2_rm 3 67) c_Md_heavyNow R_Md 3 (some .int) (Qr V X (some (.int r)) σ) σ 4 [(0, rf V 66), (1, .int v1), (2, .int v2)] []) (v2 : Int32) (s0 : Int32) (s1 : Int32) (hf : f_Md_heavyNow_59 k4 σ v2 s0 s1 = some r) : J V X (k2_rm 3 67) c_Md_heavyNow R_Md 3 (some .int) (Qr V X (some (.int r)) σ) σ 59 [(0, rf V 66), (2, .int v2)] [.int s0, .int s1] := by
  unfold f_Md_heavyNow_59 at hf
  refine J_ior (pc' := 60) d_Md_heavyNow_59 rfl ?_
  refine J_istore_n (pc' := 61) (lv' := [(1, .int (s1 ||| s0)), (0, rf V 66), (2, .int v2)]) d_Md_heavyNow_60 rfl rfl (by decide) rfl ?_
  refine J_iinc (pc' := 64) (j := 2) (v := 1) (lv' := [(2, .int (v2 + 1)), (1, .int (s1 ||| s0)), (0, rf V 66)]) d_Md_heavyNow_61 rfl rfl ic_1 (by decide) rfl ?_
  refine J_goto (tgt := 4) d_Md_heavyNow_64 (by decide) ?_
  refine J_pick [2, 1, 0] rfl ?_
  exact hk4 _ _ hf
def f_Md_heavyNow_58 (k4 : Sg → Int32 → Int32 → Option Int32) (σ : Sg) (v2 : Int32) (s0 : Int32) : Option Int32 :=
  f_Md_heavyNow_59 k4 σ v2 0 s0
set_option maxHeartbeats 4000000 in
theorem j_Md_heavyNow_58 {V : Vx} {X : Xx} {σ : Sg} {r : Int32} {k4 : Sg → Int32 → Int32 → Option Int32} (hk4 : ∀ (v1 : Int32) (v2 : Int32), k4 σ v1 v2 = some r → J V X (k2_rm 3 67) c_Md_heavyNow R_Md 3 (some .int) (Qr V X (some (.int r)) σ) σ 4 [(0, rf V 66), (1, .int v1), (2, .int v2)] []) (v2 : Int32) (s0 : Int32) (hf : f_Md_heavyNow_58 k4 σ v2 s0 = some r) : J V X (k2_rm 3 67) c_Md_heavyNow R_Md 3 (some .int) (Qr V X (some (.int r)) σ) σ 58 [(0, rf V 66), (2, .int v2)] [.int s0] := by
  unfold f_Md_heavyNow_58 at hf
  refine J_iconst (pc' := 59) (v := 0) d_Md_heavyNow_58 rfl ic_0 ?_
  exact j_Md_heavyNow_59 hk4 _ _ _ hf
def f_Md_heavyNow_4 : Nat → Sg → Int32 → Int32 → Option Int32
  | 0, _, _, _ => none
  | n + 1, σ, v1, v2 =>
    if (σ.1 66 14) ≤ v2 then
      some v1
    else
      (f_Md_counts σ v2).bind fun r3 =>
        if r3 = 0 then
          f_Md_heavyNow_58 (f_Md_heavyNow_4 n) σ v2 v1
        else
          gd (vin ((5 * v2) + 3) 100) (
            gd (vin (5 * v2) 100) (
              gd (vin ((6 * (σ.1 76 (5 * v2).toNatClampNeg)) + 3) 54) (
                if (σ.1 76 ((5 * v2) + 3).toNatClampNeg) ≤ (σ.1 73 ((6 * (σ.1 76 (5 * v2).toNatClampNeg)) + 3).toNatClampNeg) then f_Md_heavyNow_58 (f_Md_heavyNow_4 n) σ v2 v1 else f_Md_heavyNow_59 (f_Md_heavyNow_4 n) σ v2 (1 <<< (v2 &&& 31)) v1)))
theorem f_Md_heavyNow_4_s (n : Nat) (σ : Sg) (v1 : Int32) (v2 : Int32) : f_Md_heavyNow_4 (n + 1) σ v1 v2 =
    if (σ.1 66 14) ≤ v2 then
      some v1
    else
      (f_Md_counts σ v2).bind fun r3 =>
        if r3 = 0 then
          f_Md_heavyNow_58 (f_Md_heavyNow_4 n) σ v2 v1
        else
          gd (vin ((5 * v2) + 3) 100) (
            gd (vin (5 * v2) 100) (
              gd (vin ((6 * (σ.1 76 (5 * v2).toNatClampNeg)) + 3) 54) (
                if (σ.1 76 ((5 * v2) + 3).toNatClampNeg) ≤ (σ.1 73 ((6 * (σ.1 76 (5 * v2).toNatClampNeg)) + 3).toNatClampNeg) then f_Md_heavyNow_58 (f_Md_heavyNow_4 n) σ v2 v1 else f_Md_heavyNow_59 (f_Md_heavyNow_4 n) σ v2 (1 <<< (v2 &&& 31)) v1))) := rfl
set_option maxHeartbeats 4000000 in
theorem j_Md_heavyNow_4 {V : Vx} {X : Xx} {σ : Sg} {r : Int32}  : ∀ (n : Nat) (v1 : Int32) (v2 : Int32), f_Md_heavyNow_4 n σ v1 v2 = some r → J V X (k2_rm 3 67) c_Md_heavyNow R_Md 3 (some .int) (Qr V X (some (.int r)) σ) σ 4 [(0, rf V 66), (1, .int v1), (2, .int v2)] [] := by
  intro n
  induction n with
  | zero => intro v1 v2 hf; exact nn hf
  | succ n ih =>
    intro v1 v2 hf
    rw [f_Md_heavyNow_4_s] at hf
    refine J_iload_n (pc' := 5) d_Md_heavyNow_4 rfl 2 rfl ?_
    refine J_aload_n (pc' := 6) d_Md_heavyNow_5 rfl 0 rfl ?_
    refine J_getI (pc' := 9) d_Md_heavyNow_6 rfl sh_66 fl_Md_209 rfl ?_
    refine J_icmp_ge (pc' := 12) (tgt := 67) d_Md_heavyNow_9 rfl (by decide) (fun hc1 => ?_) (fun hc1 => ?_)
    · have hf := brT hc1 hf
      refine J_iload_n (pc' := 68) d_Md_heavyNow_67 rfl 1 rfl ?_
      obtain rfl := Option.some.inj hf
      exact J_iret d_Md_heavyNow_68
    · have hf := brF hc1 hf
      refine J_iload_n (pc' := 13) d_Md_heavyNow_12 rfl 1 rfl ?_
      refine J_aload_n (pc' := 14) d_Md_heavyNow_13 rfl 0 rfl ?_
      refine J_iload_n (pc' := 15) d_Md_heavyNow_14 rfl 2 rfl ?_
      obtain ⟨r3, hq2, hf⟩ := bpE hf
      refine J_V (pc' := 18) (as := [.int v2]) (rest := [.int v1]) (st' := [.int r3, .int v1]) d_Md_heavyNow_15 rfl sh_66 rfl mv_Md_219 (ct_Md_counts V _ σ v2 hq2) rfl rfl ⟨Nat.le_of_ble_eq_true rfl, Nat.le_of_ble_eq_true rfl⟩ ⟨rfl, rfl⟩ (Nat.le_of_ble_eq_true rfl) rfl ?_
      refine J_if_eq (pc' := 21) (tgt := 58) d_Md_heavyNow_18 rfl (by decide) (fun hc4 => ?_) (fun hc4 => ?_)
      · have hf := brT hc4 hf
        refine J_pick [0, 2] rfl ?_
        exact j_Md_heavyNow_58 ih _ _ hf
      · have hf := brF hc4 hf
        refine J_aload_n (pc' := 22) d_Md_heavyNow_21 rfl 0 rfl ?_
        refine J_getR (pc' := 25) d_Md_heavyNow_22 rfl sh_66 fl_Md_37 rfl ?_
        refine J_iconst (pc' := 26) (v := 5) d_Md_heavyNow_25 rfl ic_5 ?_
        refine J_iload_n (pc' := 27) d_Md_heavyNow_26 rfl 2 rfl ?_
        refine J_imul (pc' := 28) d_Md_heavyNow_27 rfl ?_
        refine J_iconst (pc' := 29) (v := 3) d_Md_heavyNow_28 rfl ic_3 ?_
        refine J_iadd (pc' := 30) d_Md_heavyNow_29 rfl ?_
        obtain ⟨hg5, hf⟩ := gdE hf
        refine J_ial (pc' := 31) d_Md_heavyNow_30 rfl sh_76 (vinP hg5) ?_
        refine J_aload_n (pc' := 32) d_Md_heavyNow_31 rfl 0 rfl ?_
        refine J_getR (pc' := 35) d_Md_heavyNow_32 rfl sh_66 fl_Md_28 rfl ?_
        refine J_bipush (pc' := 37) (v := 6) d_Md_heavyNow_35 rfl bc_6 ?_
        refine J_aload_n (pc' := 38) d_Md_heavyNow_37 rfl 0 rfl ?_
        refine J_getR (pc' := 41) d_Md_heavyNow_38 rfl sh_66 fl_Md_37 rfl ?_
        refine J_iconst (pc' := 42) (v := 5) d_Md_heavyNow_41 rfl ic_5 ?_
        refine J_iload_n (pc' := 43) d_Md_heavyNow_42 rfl 2 rfl ?_
        refine J_imul (pc' := 44) d_Md_heavyNow_43 rfl ?_
        obtain ⟨hg6, hf⟩ := gdE hf
        refine J_ial (pc' := 45) d_Md_heavyNow_44 rfl sh_76 (vinP hg6) ?_
        refine J_imul (pc' := 46) d_Md_heavyNow_45 rfl ?_
        refine J_iconst (pc' := 47) (v := 3) d_Md_heavyNow_46 rfl ic_3 ?_
        refine J_iadd (pc' := 48) d_Md_heavyNow_47 rfl ?_
        obtain ⟨hg7, hf⟩ := gdE hf
        refine J_ial (pc' := 49) d_Md_heavyNow_48 rfl sh_73 (vinP hg7) ?_
        refine J_icmp_le (pc' := 52) (tgt := 58) d_Md_heavyNow_49 rfl (by decide) (fun hc8 => ?_) (fun hc8 => ?_)
        · have hf := brT hc8 hf
          refine J_pick [0, 2] rfl ?_
          exact j_Md_heavyNow_58 ih _ _ hf
        · have hf := brF hc8 hf
          refine J_iconst (pc' := 53) (v := 1) d_Md_heavyNow_52 rfl ic_1 ?_
          refine J_iload_n (pc' := 54) d_Md_heavyNow_53 rfl 2 rfl ?_
          refine J_ishl (pc' := 55) d_Md_heavyNow_54 rfl ?_
          refine J_goto (tgt := 59) d_Md_heavyNow_55 (by decide) ?_
          refine J_pick [0, 2] rfl ?_
          exact j_Md_heavyNow_59 ih _ _ _ hf
def f_Md_heavyNow (σ : Sg)  : Option Int32 :=
  f_Md_heavyNow_4 FU σ 0 0
set_option maxHeartbeats 4000000 in
theorem j_Md_heavyNow {V : Vx} {X : Xx} {r : Int32} (σ : Sg) (hf : f_Md_heavyNow σ = some r) : J V X (k2_rm 3 67) c_Md_heavyNow R_Md 3 (some .int) (Qr V X (some (.int r)) σ) σ 0 [(0, rf V 66)] [] := by
  unfold f_Md_heavyNow at hf
  refine J_iconst (pc' := 1) (v := 0) d_Md_heavyNow_0 rfl ic_0 ?_
  refine J_istore_n (pc' := 2) (lv' := [(1, .int 0), (0, rf V 66)]) d_Md_heavyNow_1 rfl rfl (by decide) rfl ?_
  refine J_iconst (pc' := 3) (v := 0) d_Md_heavyNow_2 rfl ic_0 ?_
  refine J_istore_n (pc' := 4) (lv' := [(2, .int 0), (1, .int 0), (0, rf V 66)]) d_Md_heavyNow_3 rfl rfl (by decide) rfl ?_
  refine J_pick [2, 1, 0] rfl ?_
  exact j_Md_heavyNow_4 FU _ _ hf
theorem ct_Md_heavyNow (V : Vx) (l : Launch) (σ : Sg) {r : Int32} (hf : f_Md_heavyNow σ = some r) : Ct V l y_Md_heavyNow c_Md_heavyNow 3 (some .int) (k2_rm 3 67) [rf V 66] σ (some (.int r)) σ := Ct.ofJ (by decide +kernel) (Nat.le_of_ble_eq_true rfl) fun X _ => j_Md_heavyNow _  hf
def f_Md_heavy (σ : Sg)  : Option (Int32 × Sg) :=
  bd (f_Md_find σ) fun r3 σ2 =>
    (f_Md_heavyNow σ2).bind fun r5 =>
      some (r5, σ2)
set_option maxHeartbeats 4000000 in
theorem j_Md_heavy {V : Vx} {X : Xx} {r : Int32} {σ' : Sg} (σ : Sg) (hf : f_Md_heavy σ = some (r, σ')) : J V X (k2_rm 4 91) c_Md_heavy R_Md 1 (some .int) (Qr V X (some (.int r)) σ') σ 0 [(0, rf V 66)] [] := by
  unfold f_Md_heavy at hf
  refine J_aload_n (pc' := 1) d_Md_heavy_0 rfl 0 rfl ?_
  obtain ⟨r3, σ2, hq1, hf⟩ := bdE hf
  refine J_V (pc' := 4) (as := []) (rest := []) (st' := [.int r3]) d_Md_heavy_1 rfl sh_66 rfl mv_Md_137 (ct_Md_find V _ σ hq1) rfl rfl ⟨Nat.le_of_ble_eq_true rfl, Nat.le_of_ble_eq_true rfl⟩ ⟨rfl, rfl⟩ (Nat.le_of_ble_eq_true rfl) rfl ?_
  refine J_pop (pc' := 5) d_Md_heavy_4 rfl rfl ?_
  refine J_aload_n (pc' := 6) d_Md_heavy_5 rfl 0 rfl ?_
  obtain ⟨r5, hq4, hf⟩ := bpE hf
  refine J_V (pc' := 9) (as := []) (rest := []) (st' := [.int r5]) d_Md_heavy_6 rfl sh_66 rfl mv_Md_249 (ct_Md_heavyNow V _ σ2 hq4) rfl rfl ⟨Nat.le_of_ble_eq_true rfl, Nat.le_of_ble_eq_true rfl⟩ ⟨rfl, rfl⟩ (Nat.le_of_ble_eq_true rfl) rfl ?_
  obtain ⟨rfl, rfl⟩ := resE hf
  exact J_iret d_Md_heavy_9
theorem ct_Md_heavy (V : Vx) (l : Launch) (σ : Sg) {r : Int32} {σ' : Sg} (hf : f_Md_heavy σ = some (r, σ')) : Ct V l y_Md_heavy c_Md_heavy 1 (some .int) (k2_rm 4 91) [rf V 66] σ (some (.int r)) σ' := Ct.ofJ (by decide +kernel) (Nat.le_of_ble_eq_true rfl) fun X _ => j_Md_heavy _  hf
def f_Md_lot (σ : Sg) (v1 : Int32) : Option (Int32 × Sg) :=
  gd (decide (¬ v1 = 0)) (
    some ((us ((pI σ 66 17 ((1103515245 * (σ.1 66 17)) + 12345)).1 66 17) 16) - (us ((pI σ 66 17 ((1103515245 * (σ.1 66 17)) + 12345)).1 66 17) 16) / v1 * v1, (pI σ 66 17 ((1103515245 * (σ.1 66 17)) + 12345))))
set_option maxHeartbeats 4000000 in
theorem j_Md_lot {V : Vx} {X : Xx} {r : Int32} {σ' : Sg} (σ : Sg) (v1 : Int32) (hf : f_Md_lot σ v1 = some (r, σ')) : J V X (k2_rm 0 0) c_Md_lot R_Md 2 (some .int) (Qr V X (some (.int r)) σ') σ 0 [(0, rf V 66), (1, .int v1)] [] := by
  unfold f_Md_lot at hf
  refine J_aload_n (pc' := 1) d_Md_lot_0 rfl 0 rfl ?_
  refine J_ldc (pc' := 3) (v := 1103515245) d_Md_lot_1 rfl cw_Md_252 ?_
  refine J_aload_n (pc' := 4) d_Md_lot_3 rfl 0 rfl ?_
  refine J_getI (pc' := 7) d_Md_lot_4 rfl sh_66 fl_Md_253 rfl ?_
  refine J_imul (pc' := 8) d_Md_lot_7 rfl ?_
  refine J_sipush (pc' := 11) (v := 12345) d_Md_lot_8 rfl sc_12345 ?_
  refine J_iadd (pc' := 12) d_Md_lot_11 rfl ?_
  refine J_putI (pc' := 15) d_Md_lot_12 rfl sh_66 fp_Md_253 rfl ?_
  refine J_aload_n (pc' := 16) d_Md_lot_15 rfl 0 rfl ?_
  refine J_getI (pc' := 19) d_Md_lot_16 rfl sh_66 fl_Md_253 rfl ?_
  refine J_bipush (pc' := 21) (v := 16) d_Md_lot_19 rfl bc_16 ?_
  refine J_iushr (pc' := 22) d_Md_lot_21 rfl ?_
  refine J_iload_n (pc' := 23) d_Md_lot_22 rfl 1 rfl ?_
  obtain ⟨hg1, hf⟩ := gdE hf
  refine J_irem (pc' := 24) d_Md_lot_23 rfl (of_decide_eq_true hg1) ?_
  obtain ⟨rfl, rfl⟩ := resE hf
  exact J_iret d_Md_lot_24
theorem ct_Md_lot (V : Vx) (l : Launch) (σ : Sg) (v1 : Int32) {r : Int32} {σ' : Sg} (hf : f_Md_lot σ v1 = some (r, σ')) : Ct V l y_Md_lot c_Md_lot 2 (some .int) (k2_rm 0 0) [rf V 66, .int v1] σ (some (.int r)) σ' := Ct.ofJ (by decide +kernel) (Nat.le_of_ble_eq_true rfl) fun X _ => j_Md_lot _ v1 hf
def f_Md_wind_41 (k11 : Sg → Int32 → Option (Int32 × Sg)) (σ : Sg) (v2 : Int32) : Option (Int32 × Sg) :=
  k11 σ (v2 + 1)
set_option maxHeartbeats 4000000 in
theorem j_Md_wind_41 {V : Vx} {X : Xx} {r : Int32} {σ' : Sg} {k11 : Sg → Int32 → Option (Int32 × Sg)} (hk11 : ∀ (σ : Sg) (v2 : Int32), k11 σ v2 = some (r, σ') → J V X (k2_rm 6 137) c_Md_wind R_Md 3 (some .int) (Qr V X (some (.int r)) σ') σ 11 [(0, rf V 66), (2, .int v2)] []) (σ : Sg) (v2 : Int32) (hf : f_Md_wind_41 k11 σ v2 = some (r, σ')) : J V X (k2_rm 6 137) c_Md_wind R_Md 3 (some .int) (Qr V X (some (.int r)) σ') σ 41 [(0, rf V 66), (2, .int v2)] [] := by
  unfold f_Md_wind_41 at hf
  refine J_iinc (pc' := 44) (j := 1) (v := 1) (lv' := [(2, .int (v2 + 1)), (0, rf V 66)]) d_Md_wind_41 rfl rfl ic_1 (by decide) rfl ?_
  refine J_goto (tgt := 11) d_Md_wind_44 (by decide) ?_
  refine J_pick [1, 0] rfl ?_
  exact hk11 _ _ hf
def f_Md_wind_11 : Nat → Sg → Int32 → Option (Int32 × Sg)
  | 0, _, _ => none
  | n + 1, σ, v2 =>
    if (σ.1 66 14) ≤ v2 then
      bd (f_Md_clashesNow σ) fun r6 σ5 =>
        some (r6, σ5)
    else
      (f_Md_counts σ v2).bind fun r8 =>
        if r8 = 0 then
          f_Md_wind_41 (f_Md_wind_11 n) σ v2
        else
          gd (vin v2 20) (
            bd (f_Md_lot σ 4) fun r13 σ12 =>
              gd (vin v2 20) (
                f_Md_wind_41 (f_Md_wind_11 n) (pI σ12 77 v2.toNatClampNeg ((σ.1 77 v2.toNatClampNeg) + r13)) v2))
theorem f_Md_wind_11_s (n : Nat) (σ : Sg) (v2 : Int32) : f_Md_wind_11 (n + 1) σ v2 =
    if (σ.1 66 14) ≤ v2 then
      bd (f_Md_clashesNow σ) fun r6 σ5 =>
        some (r6, σ5)
    else
      (f_Md_counts σ v2).bind fun r8 =>
        if r8 = 0 then
          f_Md_wind_41 (f_Md_wind_11 n) σ v2
        else
          gd (vin v2 20) (
            bd (f_Md_lot σ 4) fun r13 σ12 =>
              gd (vin v2 20) (
                f_Md_wind_41 (f_Md_wind_11 n) (pI σ12 77 v2.toNatClampNeg ((σ.1 77 v2.toNatClampNeg) + r13)) v2)) := rfl
set_option maxHeartbeats 4000000 in
theorem j_Md_wind_11 {V : Vx} {X : Xx} {r : Int32} {σ' : Sg}  : ∀ (n : Nat) (σ : Sg) (v2 : Int32), f_Md_wind_11 n σ v2 = some (r, σ') → J V X (k2_rm 6 137) c_Md_wind R_Md 3 (some .int) (Qr V X (some (.int r)) σ') σ 11 [(0, rf V 66), (2, .int v2)] [] := by
  intro n
  induction n with
  | zero => intro σ v2 hf; exact nn hf
  | succ n ih =>
    intro σ v2 hf
    rw [f_Md_wind_11_s] at hf
    refine J_iload_n (pc' := 12) d_Md_wind_11 rfl 1 rfl ?_
    refine J_aload_n (pc' := 13) d_Md_wind_12 rfl 0 rfl ?_
    refine J_getI (pc' := 16) d_Md_wind_13 rfl sh_66 fl_Md_209 rfl ?_
    refine J_icmp_ge (pc' := 19) (tgt := 47) d_Md_wind_16 rfl (by decide) (fun hc3 => ?_) (fun hc3 => ?_)
    · have hf := brT hc3 hf
      refine J_aload_n (pc' := 48) d_Md_wind_47 rfl 0 rfl ?_
      obtain ⟨r6, σ5, hq4, hf⟩ := bdE hf
      refine J_V (pc' := 51) (as := []) (rest := []) (st' := [.int r6]) d_Md_wind_48 rfl sh_66 rfl mv_Md_234 (ct_Md_clashesNow V _ σ hq4) rfl rfl ⟨Nat.le_of_ble_eq_true rfl, Nat.le_of_ble_eq_true rfl⟩ ⟨rfl, rfl⟩ (Nat.le_of_ble_eq_true rfl) rfl ?_
      obtain ⟨rfl, rfl⟩ := resE hf
      exact J_iret d_Md_wind_51
    · have hf := brF hc3 hf
      refine J_aload_n (pc' := 20) d_Md_wind_19 rfl 0 rfl ?_
      refine J_iload_n (pc' := 21) d_Md_wind_20 rfl 1 rfl ?_
      obtain ⟨r8, hq7, hf⟩ := bpE hf
      refine J_V (pc' := 24) (as := [.int v2]) (rest := []) (st' := [.int r8]) d_Md_wind_21 rfl sh_66 rfl mv_Md_219 (ct_Md_counts V _ σ v2 hq7) rfl rfl ⟨Nat.le_of_ble_eq_true rfl, Nat.le_of_ble_eq_true rfl⟩ ⟨rfl, rfl⟩ (Nat.le_of_ble_eq_true rfl) rfl ?_
      refine J_if_eq (pc' := 27) (tgt := 41) d_Md_wind_24 rfl (by decide) (fun hc9 => ?_) (fun hc9 => ?_)
      · have hf := brT hc9 hf
        exact j_Md_wind_41 ih _ _ hf
      · have hf := brF hc9 hf
        refine J_aload_n (pc' := 28) d_Md_wind_27 rfl 0 rfl ?_
        refine J_getR (pc' := 31) d_Md_wind_28 rfl sh_66 fl_Md_40 rfl ?_
        refine J_iload_n (pc' := 32) d_Md_wind_31 rfl 1 rfl ?_
        refine J_dup2 (pc' := 33) d_Md_wind_32 rfl rfl rfl ?_
        obtain ⟨hg10, hf⟩ := gdE hf
        refine J_ial (pc' := 34) d_Md_wind_33 rfl sh_77 (vinP hg10) ?_
        refine J_aload_n (pc' := 35) d_Md_wind_34 rfl 0 rfl ?_
        refine J_iconst (pc' := 36) (v := 4) d_Md_wind_35 rfl ic_4 ?_
        obtain ⟨r13, σ12, hq11, hf⟩ := bdE hf
        refine J_V (pc' := 39) (as := [.int 4]) (rest := [.int (σ.1 77 v2.toNatClampNeg), .int v2, rf V 77]) (st' := [.int r13, .int (σ.1 77 v2.toNatClampNeg), .int v2, rf V 77]) d_Md_wind_36 rfl sh_66 rfl mv_Md_256 (ct_Md_lot V _ σ 4 hq11) rfl rfl ⟨Nat.le_of_ble_eq_true rfl, Nat.le_of_ble_eq_true rfl⟩ ⟨rfl, rfl⟩ (Nat.le_of_ble_eq_true rfl) rfl ?_
        refine J_iadd (pc' := 40) d_Md_wind_39 rfl ?_
        obtain ⟨hg14, hf⟩ := gdE hf
        refine J_ias (pc' := 41) d_Md_wind_40 rfl sh_77 (vinP hg14) ?_
        exact j_Md_wind_41 ih _ _ hf
def f_Md_wind (σ : Sg) (v1 : Int32) : Option (Int32 × Sg) :=
  (f_Md_asTold σ).bind fun σ2 =>
    f_Md_wind_11 FU (pI σ2 66 17 v1) 0
set_option maxHeartbeats 4000000 in
theorem j_Md_wind {V : Vx} {X : Xx} {r : Int32} {σ' : Sg} (σ : Sg) (v1 : Int32) (hf : f_Md_wind σ v1 = some (r, σ')) : J V X (k2_rm 6 137) c_Md_wind R_Md 3 (some .int) (Qr V X (some (.int r)) σ') σ 0 [(0, rf V 66), (1, .int v1)] [] := by
  unfold f_Md_wind at hf
  refine J_aload_n (pc' := 1) d_Md_wind_0 rfl 0 rfl ?_
  obtain ⟨σ2, hq1, hf⟩ := bpE hf
  refine J_V (pc' := 4) (as := []) (rest := []) (st' := []) d_Md_wind_1 rfl sh_66 rfl mv_Md_228 (ct_Md_asTold V _ σ hq1) rfl rfl ⟨Nat.le_of_ble_eq_true rfl, Nat.le_of_ble_eq_true rfl⟩ ⟨rfl, rfl⟩ (Nat.le_of_ble_eq_true rfl) rfl ?_
  refine J_aload_n (pc' := 5) d_Md_wind_4 rfl 0 rfl ?_
  refine J_iload_n (pc' := 6) d_Md_wind_5 rfl 1 rfl ?_
  refine J_putI (pc' := 9) d_Md_wind_6 rfl sh_66 fp_Md_253 rfl ?_
  refine J_iconst (pc' := 10) (v := 0) d_Md_wind_9 rfl ic_0 ?_
  refine J_istore_n (pc' := 11) (lv' := [(2, .int 0), (0, rf V 66), (1, .int v1)]) d_Md_wind_10 rfl rfl (by decide) rfl ?_
  refine J_pick [1, 0] rfl ?_
  exact j_Md_wind_11 FU _ _ hf
theorem ct_Md_wind (V : Vx) (l : Launch) (σ : Sg) (v1 : Int32) {r : Int32} {σ' : Sg} (hf : f_Md_wind σ v1 = some (r, σ')) : Ct V l y_Md_wind c_Md_wind 3 (some .int) (k2_rm 6 137) [rf V 66, .int v1] σ (some (.int r)) σ' := Ct.ofJ (by decide +kernel) (Nat.le_of_ble_eq_true rfl) fun X _ => j_Md_wind _ v1 hf
def f_Md_part (σ : Sg) (v1 : Int32) (v2 : Int32) : Option (Int32 × Sg) :=
  if (f_Md_isFigure v1) = 0 then
    some ((-2), σ)
  else
    if (f_Md_in v2.toInt64 0 2) = 0 then
      some ((-2), σ)
    else
      if (σ.1 66 18) = 5 then
        some ((-4), σ)
      else
        gd (vin (σ.1 66 18) 5) (
          gd (vin ((pI σ 78 (σ.1 66 18).toNatClampNeg v1).1 66 18) 5) (
            some (((pI (pI (pI σ 78 (σ.1 66 18).toNatClampNeg v1) 79 ((pI σ 78 (σ.1 66 18).toNatClampNeg v1).1 66 18).toNatClampNeg v2) 66 18 (((pI (pI σ 78 (σ.1 66 18).toNatClampNeg v1) 79 ((pI σ 78 (σ.1 66 18).toNatClampNeg v1).1 66 18).toNatClampNeg v2).1 66 18) + 1)).1 66 18) - 1, (pI (pI (pI σ 78 (σ.1 66 18).toNatClampNeg v1) 79 ((pI σ 78 (σ.1 66 18).toNatClampNeg v1).1 66 18).toNatClampNeg v2) 66 18 (((pI (pI σ 78 (σ.1 66 18).toNatClampNeg v1) 79 ((pI σ 78 (σ.1 66 18).toNatClampNeg v1).1 66 18).toNatClampNeg v2).1 66 18) + 1)))))
set_option maxHeartbeats 4000000 in
theorem j_Md_part {V : Vx} {X : Xx} {r : Int32} {σ' : Sg} (σ : Sg) (v1 : Int32) (v2 : Int32) (hf : f_Md_part σ v1 v2 = some (r, σ')) : J V X (k2_rm 2 45) c_Md_part R_Md 3 (some .int) (Qr V X (some (.int r)) σ') σ 0 [(0, rf V 66), (1, .int v1), (2, .int v2)] [] := by
  unfold f_Md_part at hf
  refine J_iload_n (pc' := 1) d_Md_part_0 rfl 1 rfl ?_
  refine J_S (pc' := 4) (as := [.int v1]) (rest := []) (st' := [.int (f_Md_isFigure v1)]) d_Md_part_1 rfl ms_Md_189 (ct_Md_isFigure V _ σ v1) rfl rfl ⟨Nat.le_of_ble_eq_true rfl, Nat.le_of_ble_eq_true rfl⟩ ⟨rfl, rfl⟩ (Nat.le_of_ble_eq_true rfl) rfl ?_
  refine J_if_eq (pc' := 7) (tgt := 19) d_Md_part_4 rfl (by decide) (fun hc1 => ?_) (fun hc1 => ?_)
  · have hf := brT hc1 hf
    refine J_bipush (pc' := 21) (v := (-2)) d_Md_part_19 rfl bc_m2 ?_
    obtain ⟨rfl, rfl⟩ := resE hf
    exact J_iret d_Md_part_21
  · have hf := brF hc1 hf
    refine J_iload_n (pc' := 8) d_Md_part_7 rfl 2 rfl ?_
    refine J_i2l (pc' := 9) d_Md_part_8 rfl ?_
    refine J_lconst (pc' := 10) (v := 0) d_Md_part_9 rfl lc_0 ?_
    refine J_ldc2 (pc' := 13) (v := 2) d_Md_part_10 rfl cw_Md_91 ?_
    refine J_S (pc' := 16) (as := [.long v2.toInt64, .long 0, .long 2]) (rest := []) (st' := [.int (f_Md_in v2.toInt64 0 2)]) d_Md_part_13 rfl ms_Md_73 (ct_Md_in V _ σ v2.toInt64 0 2) rfl rfl ⟨Nat.le_of_ble_eq_true rfl, Nat.le_of_ble_eq_true rfl⟩ ⟨rfl, rfl⟩ (Nat.le_of_ble_eq_true rfl) rfl ?_
    refine J_if_ne (pc' := 19) (tgt := 22) d_Md_part_16 rfl (by decide) (fun hc2 => ?_) (fun hc2 => ?_)
    · have hf := brF hc2 hf
      refine J_aload_n (pc' := 23) d_Md_part_22 rfl 0 rfl ?_
      refine J_getI (pc' := 26) d_Md_part_23 rfl sh_66 fl_Md_259 rfl ?_
      refine J_iconst (pc' := 27) (v := 5) d_Md_part_26 rfl ic_5 ?_
      refine J_icmp_ne (pc' := 30) (tgt := 33) d_Md_part_27 rfl (by decide) (fun hc3 => ?_) (fun hc3 => ?_)
      · have hf := brF hc3 hf
        refine J_aload_n (pc' := 34) d_Md_part_33 rfl 0 rfl ?_
        refine J_getR (pc' := 37) d_Md_part_34 rfl sh_66 fl_Md_43 rfl ?_
        refine J_aload_n (pc' := 38) d_Md_part_37 rfl 0 rfl ?_
        refine J_getI (pc' := 41) d_Md_part_38 rfl sh_66 fl_Md_259 rfl ?_
        refine J_iload_n (pc' := 42) d_Md_part_41 rfl 1 rfl ?_
        obtain ⟨hg4, hf⟩ := gdE hf
        refine J_ias (pc' := 43) d_Md_part_42 rfl sh_78 (vinP hg4) ?_
        refine J_aload_n (pc' := 44) d_Md_part_43 rfl 0 rfl ?_
        refine J_getR (pc' := 47) d_Md_part_44 rfl sh_66 fl_Md_46 rfl ?_
        refine J_aload_n (pc' := 48) d_Md_part_47 rfl 0 rfl ?_
        refine J_getI (pc' := 51) d_Md_part_48 rfl sh_66 fl_Md_259 rfl ?_
        refine J_iload_n (pc' := 52) d_Md_part_51 rfl 2 rfl ?_
        obtain ⟨hg5, hf⟩ := gdE hf
        refine J_ias (pc' := 53) d_Md_part_52 rfl sh_79 (vinP hg5) ?_
        refine J_aload_n (pc' := 54) d_Md_part_53 rfl 0 rfl ?_
        refine J_dup (pc' := 55) d_Md_part_54 rfl rfl ?_
        refine J_getI (pc' := 58) d_Md_part_55 rfl sh_66 fl_Md_259 rfl ?_
        refine J_iconst (pc' := 59) (v := 1) d_Md_part_58 rfl ic_1 ?_
        refine J_iadd (pc' := 60) d_Md_part_59 rfl ?_
        refine J_putI (pc' := 63) d_Md_part_60 rfl sh_66 fp_Md_259 rfl ?_
        refine J_aload_n (pc' := 64) d_Md_part_63 rfl 0 rfl ?_
        refine J_getI (pc' := 67) d_Md_part_64 rfl sh_66 fl_Md_259 rfl ?_
        refine J_iconst (pc' := 68) (v := 1) d_Md_part_67 rfl ic_1 ?_
        refine J_isub (pc' := 69) d_Md_part_68 rfl ?_
        obtain ⟨rfl, rfl⟩ := resE hf
        exact J_iret d_Md_part_69
      · have hf := brT hc3 hf
        refine J_bipush (pc' := 32) (v := (-4)) d_Md_part_30 rfl bc_m4 ?_
        obtain ⟨rfl, rfl⟩ := resE hf
        exact J_iret d_Md_part_32
    · have hf := brT hc2 hf
      refine J_bipush (pc' := 21) (v := (-2)) d_Md_part_19 rfl bc_m2 ?_
      obtain ⟨rfl, rfl⟩ := resE hf
      exact J_iret d_Md_part_21
theorem ct_Md_part (V : Vx) (l : Launch) (σ : Sg) (v1 : Int32) (v2 : Int32) {r : Int32} {σ' : Sg} (hf : f_Md_part σ v1 v2 = some (r, σ')) : Ct V l y_Md_part c_Md_part 3 (some .int) (k2_rm 2 45) [rf V 66, .int v1, .int v2] σ (some (.int r)) σ' := Ct.ofJ (by decide +kernel) (Nat.le_of_ble_eq_true rfl) fun X _ => j_Md_part _ v1 v2 hf
def f_Md_gone (σ : Sg)  : Option (Int32 × Sg) :=
  some (σ.1 66 18, (pI σ 66 18 0))
set_option maxHeartbeats 4000000 in
theorem j_Md_gone {V : Vx} {X : Xx} {r : Int32} {σ' : Sg} (σ : Sg) (hf : f_Md_gone σ = some (r, σ')) : J V X (k2_rm 0 0) c_Md_gone R_Md 2 (some .int) (Qr V X (some (.int r)) σ') σ 0 [(0, rf V 66)] [] := by
  unfold f_Md_gone at hf
  refine J_aload_n (pc' := 1) d_Md_gone_0 rfl 0 rfl ?_
  refine J_getI (pc' := 4) d_Md_gone_1 rfl sh_66 fl_Md_259 rfl ?_
  refine J_istore_n (pc' := 5) (lv' := [(1, .int (σ.1 66 18)), (0, rf V 66)]) d_Md_gone_4 rfl rfl (by decide) rfl ?_
  refine J_aload_n (pc' := 6) d_Md_gone_5 rfl 1 rfl ?_
  refine J_iconst (pc' := 7) (v := 0) d_Md_gone_6 rfl ic_0 ?_
  refine J_putI (pc' := 10) d_Md_gone_7 rfl sh_66 fp_Md_259 rfl ?_
  refine J_iload_n (pc' := 11) d_Md_gone_10 rfl 0 rfl ?_
  obtain ⟨rfl, rfl⟩ := resE hf
  exact J_iret d_Md_gone_11
theorem ct_Md_gone (V : Vx) (l : Launch) (σ : Sg) {r : Int32} {σ' : Sg} (hf : f_Md_gone σ = some (r, σ')) : Ct V l y_Md_gone c_Md_gone 2 (some .int) (k2_rm 0 0) [rf V 66] σ (some (.int r)) σ' := Ct.ofJ (by decide +kernel) (Nat.le_of_ble_eq_true rfl) fun X _ => j_Md_gone _  hf
def f_Md_mayGo (σ : Sg) (v1 : Int32) (v2 : Int32) (v3 : Int32) : Option Int32 :=
  if v2 = v3 then
    some 0
  else
    gd (vin ((6 * v2) + 2) 54) (
      gd (vin v1 5) (
        if (σ.1 73 ((6 * v2) + 2).toNatClampNeg) = (σ.1 79 v1.toNatClampNeg) then
          gd (vin ((6 * v2) + 3) 54) (
            gd (vin v1 5) (
              if (σ.1 73 ((6 * v2) + 3).toNatClampNeg) < (σ.1 78 v1.toNatClampNeg) then some 0 else some 1))
        else
          some 0))
set_option maxHeartbeats 4000000 in
theorem j_Md_mayGo {V : Vx} {X : Xx} {r : Int32} (σ : Sg) (v1 : Int32) (v2 : Int32) (v3 : Int32) (hf : f_Md_mayGo σ v1 v2 v3 = some r) : J V X (k2_rm 0 0) c_Md_mayGo R_Md 4 (some .boolean) (Qr V X (some (.int r)) σ) σ 0 [(0, rf V 66), (1, .int v1), (2, .int v2), (3, .int v3)] [] := by
  unfold f_Md_mayGo at hf
  refine J_iload_n (pc' := 1) d_Md_mayGo_0 rfl 2 rfl ?_
  refine J_iload_n (pc' := 2) d_Md_mayGo_1 rfl 3 rfl ?_
  refine J_icmp_eq (pc' := 5) (tgt := 49) d_Md_mayGo_2 rfl (by decide) (fun hc1 => ?_) (fun hc1 => ?_)
  · have hf := brT hc1 hf
    refine J_iconst (pc' := 50) (v := 0) d_Md_mayGo_49 rfl ic_0 ?_
    obtain rfl := Option.some.inj hf
    exact J_zret (by decide) d_Md_mayGo_50
  · have hf := brF hc1 hf
    refine J_aload_n (pc' := 6) d_Md_mayGo_5 rfl 0 rfl ?_
    refine J_getR (pc' := 9) d_Md_mayGo_6 rfl sh_66 fl_Md_28 rfl ?_
    refine J_bipush (pc' := 11) (v := 6) d_Md_mayGo_9 rfl bc_6 ?_
    refine J_iload_n (pc' := 12) d_Md_mayGo_11 rfl 2 rfl ?_
    refine J_imul (pc' := 13) d_Md_mayGo_12 rfl ?_
    refine J_iconst (pc' := 14) (v := 2) d_Md_mayGo_13 rfl ic_2 ?_
    refine J_iadd (pc' := 15) d_Md_mayGo_14 rfl ?_
    obtain ⟨hg2, hf⟩ := gdE hf
    refine J_ial (pc' := 16) d_Md_mayGo_15 rfl sh_73 (vinP hg2) ?_
    refine J_aload_n (pc' := 17) d_Md_mayGo_16 rfl 0 rfl ?_
    refine J_getR (pc' := 20) d_Md_mayGo_17 rfl sh_66 fl_Md_46 rfl ?_
    refine J_iload_n (pc' := 21) d_Md_mayGo_20 rfl 1 rfl ?_
    obtain ⟨hg3, hf⟩ := gdE hf
    refine J_ial (pc' := 22) d_Md_mayGo_21 rfl sh_79 (vinP hg3) ?_
    refine J_icmp_ne (pc' := 25) (tgt := 49) d_Md_mayGo_22 rfl (by decide) (fun hc4 => ?_) (fun hc4 => ?_)
    · have hf := brF hc4 hf
      refine J_iconst (pc' := 50) (v := 0) d_Md_mayGo_49 rfl ic_0 ?_
      obtain rfl := Option.some.inj hf
      exact J_zret (by decide) d_Md_mayGo_50
    · have hf := brT hc4 hf
      refine J_aload_n (pc' := 26) d_Md_mayGo_25 rfl 0 rfl ?_
      refine J_getR (pc' := 29) d_Md_mayGo_26 rfl sh_66 fl_Md_28 rfl ?_
      refine J_bipush (pc' := 31) (v := 6) d_Md_mayGo_29 rfl bc_6 ?_
      refine J_iload_n (pc' := 32) d_Md_mayGo_31 rfl 2 rfl ?_
      refine J_imul (pc' := 33) d_Md_mayGo_32 rfl ?_
      refine J_iconst (pc' := 34) (v := 3) d_Md_mayGo_33 rfl ic_3 ?_
      refine J_iadd (pc' := 35) d_Md_mayGo_34 rfl ?_
      obtain ⟨hg5, hf⟩ := gdE hf
      refine J_ial (pc' := 36) d_Md_mayGo_35 rfl sh_73 (vinP hg5) ?_
      refine J_aload_n (pc' := 37) d_Md_mayGo_36 rfl 0 rfl ?_
      refine J_getR (pc' := 40) d_Md_mayGo_37 rfl sh_66 fl_Md_43 rfl ?_
      refine J_iload_n (pc' := 41) d_Md_mayGo_40 rfl 1 rfl ?_
      obtain ⟨hg6, hf⟩ := gdE hf
      refine J_ial (pc' := 42) d_Md_mayGo_41 rfl sh_78 (vinP hg6) ?_
      refine J_icmp_lt (pc' := 45) (tgt := 49) d_Md_mayGo_42 rfl (by decide) (fun hc7 => ?_) (fun hc7 => ?_)
      · have hf := brT hc7 hf
        refine J_iconst (pc' := 50) (v := 0) d_Md_mayGo_49 rfl ic_0 ?_
        obtain rfl := Option.some.inj hf
        exact J_zret (by decide) d_Md_mayGo_50
      · have hf := brF hc7 hf
        refine J_iconst (pc' := 46) (v := 1) d_Md_mayGo_45 rfl ic_1 ?_
        refine J_goto (tgt := 50) d_Md_mayGo_46 (by decide) ?_
        obtain rfl := Option.some.inj hf
        exact J_zret (by decide) d_Md_mayGo_50
theorem ct_Md_mayGo (V : Vx) (l : Launch) (σ : Sg) (v1 : Int32) (v2 : Int32) (v3 : Int32) {r : Int32} (hf : f_Md_mayGo σ v1 v2 v3 = some r) : Ct V l y_Md_mayGo c_Md_mayGo 4 (some .boolean) (k2_rm 0 0) [rf V 66, .int v1, .int v2, .int v3] σ (some (.int r)) σ := Ct.ofJ (by decide +kernel) (Nat.le_of_ble_eq_true rfl) fun X _ => j_Md_mayGo _ v1 v2 v3 hf
def f_Md_nextRope_5 : Nat → Sg → Int32 → Int32 → Int32 → Int32 → Option Int32
  | 0, _, _, _, _, _ => none
  | n + 1, σ, v1, v3, v4, v5 =>
    if v3 ≤ v5 then
      some (-1)
    else
      (f_Md_mayGo σ v1 v5 v4).bind fun r3 =>
        if r3 = 0 then f_Md_nextRope_5 n σ v1 v3 v4 (v5 + 1) else some v5
theorem f_Md_nextRope_5_s (n : Nat) (σ : Sg) (v1 : Int32) (v3 : Int32) (v4 : Int32) (v5 : Int32) : f_Md_nextRope_5 (n + 1) σ v1 v3 v4 v5 =
    if v3 ≤ v5 then
      some (-1)
    else
      (f_Md_mayGo σ v1 v5 v4).bind fun r3 =>
        if r3 = 0 then f_Md_nextRope_5 n σ v1 v3 v4 (v5 + 1) else some v5 := rfl
set_option maxHeartbeats 4000000 in
theorem j_Md_nextRope_5 {V : Vx} {X : Xx} {σ : Sg} {r : Int32}  : ∀ (n : Nat) (v1 : Int32) (v3 : Int32) (v4 : Int32) (v5 : Int32), f_Md_nextRope_5 n σ v1 v3 v4 v5 = some r → J V X (k2_rm 1 23) c_Md_nextRope R_Md 6 (some .int) (Qr V X (some (.int r)) σ) σ 5 [(0, rf V 66), (1, .int v1), (3, .int v3), (4, .int v4), (5, .int v5)] [] := by
  intro n
  induction n with
  | zero => intro v1 v3 v4 v5 hf; exact nn hf
  | succ n ih =>
    intro v1 v3 v4 v5 hf
    rw [f_Md_nextRope_5_s] at hf
    refine J_iload (pc' := 7) d_Md_nextRope_5 rfl 4 rfl ?_
    refine J_iload_n (pc' := 8) d_Md_nextRope_7 rfl 2 rfl ?_
    refine J_icmp_ge (pc' := 11) (tgt := 32) d_Md_nextRope_8 rfl (by decide) (fun hc1 => ?_) (fun hc1 => ?_)
    · have hf := brT hc1 hf
      refine J_iconst (pc' := 33) (v := (-1)) d_Md_nextRope_32 rfl ic_m1 ?_
      obtain rfl := Option.some.inj hf
      exact J_iret d_Md_nextRope_33
    · have hf := brF hc1 hf
      refine J_aload_n (pc' := 12) d_Md_nextRope_11 rfl 0 rfl ?_
      refine J_iload_n (pc' := 13) d_Md_nextRope_12 rfl 1 rfl ?_
      refine J_iload (pc' := 15) d_Md_nextRope_13 rfl 4 rfl ?_
      refine J_iload (pc' := 17) d_Md_nextRope_15 rfl 3 rfl ?_
      obtain ⟨r3, hq2, hf⟩ := bpE hf
      refine J_V (pc' := 20) (as := [.int v1, .int v5, .int v4]) (rest := []) (st' := [.int r3]) d_Md_nextRope_17 rfl sh_66 rfl mv_Md_262 (ct_Md_mayGo V _ σ v1 v5 v4 hq2) rfl rfl ⟨Nat.le_of_ble_eq_true rfl, Nat.le_of_ble_eq_true rfl⟩ ⟨rfl, rfl⟩ (Nat.le_of_ble_eq_true rfl) rfl ?_
      refine J_if_eq (pc' := 23) (tgt := 26) d_Md_nextRope_20 rfl (by decide) (fun hc4 => ?_) (fun hc4 => ?_)
      · have hf := brT hc4 hf
        refine J_iinc (pc' := 29) (j := 4) (v := 1) (lv' := [(5, .int (v5 + 1)), (0, rf V 66), (1, .int v1), (3, .int v3), (4, .int v4)]) d_Md_nextRope_26 rfl rfl ic_1 (by decide) rfl ?_
        refine J_goto (tgt := 5) d_Md_nextRope_29 (by decide) ?_
        refine J_pick [1, 2, 3, 4, 0] rfl ?_
        exact ih _ _ _ _ hf
      · have hf := brF hc4 hf
        refine J_iload (pc' := 25) d_Md_nextRope_23 rfl 4 rfl ?_
        obtain rfl := Option.some.inj hf
        exact J_iret d_Md_nextRope_25
def f_Md_nextRope (σ : Sg) (v1 : Int32) (v2 : Int32) (v3 : Int32) (v4 : Int32) : Option Int32 :=
  f_Md_nextRope_5 FU σ v1 v3 v4 (v2 + 1)
set_option maxHeartbeats 4000000 in
theorem j_Md_nextRope {V : Vx} {X : Xx} {r : Int32} (σ : Sg) (v1 : Int32) (v2 : Int32) (v3 : Int32) (v4 : Int32) (hf : f_Md_nextRope σ v1 v2 v3 v4 = some r) : J V X (k2_rm 1 23) c_Md_nextRope R_Md 6 (some .int) (Qr V X (some (.int r)) σ) σ 0 [(0, rf V 66), (1, .int v1), (2, .int v2), (3, .int v3), (4, .int v4)] [] := by
  unfold f_Md_nextRope at hf
  refine J_iload_n (pc' := 1) d_Md_nextRope_0 rfl 2 rfl ?_
  refine J_iconst (pc' := 2) (v := 1) d_Md_nextRope_1 rfl ic_1 ?_
  refine J_iadd (pc' := 3) d_Md_nextRope_2 rfl ?_
  refine J_istore (pc' := 5) (lv' := [(5, .int (v2 + 1)), (0, rf V 66), (1, .int v1), (2, .int v2), (3, .int v3), (4, .int v4)]) d_Md_nextRope_3 rfl (by decide) rfl ?_
  refine J_pick [1, 2, 4, 5, 0] rfl ?_
  exact j_Md_nextRope_5 FU _ _ _ _ hf
theorem ct_Md_nextRope (V : Vx) (l : Launch) (σ : Sg) (v1 : Int32) (v2 : Int32) (v3 : Int32) (v4 : Int32) {r : Int32} (hf : f_Md_nextRope σ v1 v2 v3 v4 = some r) : Ct V l y_Md_nextRope c_Md_nextRope 6 (some .int) (k2_rm 1 23) [rf V 66, .int v1, .int v2, .int v3, .int v4] σ (some (.int r)) σ := Ct.ofJ (by decide +kernel) (Nat.le_of_ble_eq_true rfl) fun X _ => j_Md_nextRope _ v1 v2 v3 v4 hf
