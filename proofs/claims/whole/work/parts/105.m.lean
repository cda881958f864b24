theorem d_Ts_frayOf_0 : decode c_Ts_frayOf 0 = .ok (.iconst 0, 1) := by decide +kernel
theorem d_Ts_frayOf_1 : decode c_Ts_frayOf 1 = .ok (.istore_n 2, 1) := by decide +kernel
theorem d_Ts_frayOf_2 : decode c_Ts_frayOf 2 = .ok (.iconst 0, 1) := by decide +kernel
theorem d_Ts_frayOf_3 : decode c_Ts_frayOf 3 = .ok (.istore_n 3, 1) := by decide +kernel
theorem d_Ts_frayOf_4 : decode c_Ts_frayOf 4 = .ok (.iload_n 3, 1) := by decide +kernel
theorem d_Ts_frayOf_5 : decode c_Ts_frayOf 5 = .ok (.aload_n 0, 1) := by decide +kernel
theorem d_Ts_frayOf_6 : decode c_Ts_frayOf 6 = .ok (.getfield 22, 3) := by decide +kernel
theorem d_Ts_frayOf_9 : decode c_Ts_frayOf 9 = .ok (.if_icmp .ge 35, 3) := by decide +kernel
theorem d_Ts_frayOf_12 : decode c_Ts_frayOf 12 = .ok (.aload_n 0, 1) := by decide +kernel
theorem d_Ts_frayOf_13 : decode c_Ts_frayOf 13 = .ok (.iload_n 3, 1) := by decide +kernel
theorem d_Ts_frayOf_14 : decode c_Ts_frayOf 14 = .ok (.invokevirtual 34, 3) := by decide +kernel
theorem d_Ts_frayOf_17 : decode c_Ts_frayOf 17 = .ok (.astore 4, 2) := by decide +kernel
theorem d_Ts_frayOf_19 : decode c_Ts_frayOf 19 = .ok (.aload 4, 2) := by decide +kernel
theorem d_Ts_frayOf_21 : decode c_Ts_frayOf 21 = .ok (.getfield 38, 3) := by decide +kernel
theorem d_Ts_frayOf_24 : decode c_Ts_frayOf 24 = .ok (.iload_n 1, 1) := by decide +kernel
theorem d_Ts_frayOf_25 : decode c_Ts_frayOf 25 = .ok (.if_icmp .ne 13, 3) := by decide +kernel
theorem d_Ts_frayOf_28 : decode c_Ts_frayOf 28 = .ok (.iload_n 2, 1) := by decide +kernel
theorem d_Ts_frayOf_29 : decode c_Ts_frayOf 29 = .ok (.aload 4, 2) := by decide +kernel
theorem d_Ts_frayOf_31 : decode c_Ts_frayOf 31 = .ok (.getfield 47, 3) := by decide +kernel
theorem d_Ts_frayOf_34 : decode c_Ts_frayOf 34 = .ok (.iconst 1, 1) := by decide +kernel
theorem d_Ts_frayOf_35 : decode c_Ts_frayOf 35 = .ok (.iadd, 1) := by decide +kernel
theorem d_Ts_frayOf_36 : decode c_Ts_frayOf 36 = .ok (.iadd, 1) := by decide +kernel
theorem d_Ts_frayOf_37 : decode c_Ts_frayOf 37 = .ok (.istore_n 2, 1) := by decide +kernel
theorem d_Ts_frayOf_38 : decode c_Ts_frayOf 38 = .ok (.iinc 3 1, 3) := by decide +kernel
theorem d_Ts_frayOf_41 : decode c_Ts_frayOf 41 = .ok (.goto (-37), 3) := by decide +kernel
theorem d_Ts_frayOf_44 : decode c_Ts_frayOf 44 = .ok (.iload_n 2, 1) := by decide +kernel
theorem d_Ts_frayOf_45 : decode c_Ts_frayOf 45 = .ok (.ireturn, 1) := by decide +kernel
theorem d_GR_frayed_0 : decode c_GR_frayed 0 = .ok (.aload_n 0, 1) := by decide +kernel
theorem d_GR_frayed_1 : decode c_GR_frayed 1 = .ok (.getfield 24, 3) := by decide +kernel
theorem d_GR_frayed_4 : decode c_GR_frayed 4 = .ok (.iload_n 1, 1) := by decide +kernel
theorem d_GR_frayed_5 : decode c_GR_frayed 5 = .ok (.invokevirtual 100, 3) := by decide +kernel
theorem d_GR_frayed_8 : decode c_GR_frayed 8 = .ok (.ifCond .eq 11, 3) := by decide +kernel
theorem d_GR_frayed_11 : decode c_GR_frayed 11 = .ok (.iload_n 2, 1) := by decide +kernel
theorem d_GR_frayed_12 : decode c_GR_frayed 12 = .ok (.iconst 2, 1) := by decide +kernel
theorem d_GR_frayed_13 : decode c_GR_frayed 13 = .ok (.invokestatic 67, 3) := by decide +kernel
theorem d_GR_frayed_16 : decode c_GR_frayed 16 = .ok (.ifCond .ne 6, 3) := by decide +kernel
theorem d_GR_frayed_19 : decode c_GR_frayed 19 = .ok (.bipush (-2), 2) := by decide +kernel
theorem d_GR_frayed_21 : decode c_GR_frayed 21 = .ok (.ireturn, 1) := by decide +kernel
theorem d_GR_frayed_22 : decode c_GR_frayed 22 = .ok (.iload_n 2, 1) := by decide +kernel
theorem d_GR_frayed_23 : decode c_GR_frayed 23 = .ok (.ifCond .ne 14, 3) := by decide +kernel
theorem d_GR_frayed_26 : decode c_GR_frayed 26 = .ok (.aload_n 0, 1) := by decide +kernel
theorem d_GR_frayed_27 : decode c_GR_frayed 27 = .ok (.getfield 35, 3) := by decide +kernel
theorem d_GR_frayed_30 : decode c_GR_frayed 30 = .ok (.iload_n 1, 1) := by decide +kernel
theorem d_GR_frayed_31 : decode c_GR_frayed 31 = .ok (.invokevirtual 198, 3) := by decide +kernel
theorem d_GR_frayed_34 : decode c_GR_frayed 34 = .ok (.goto 17, 3) := by decide +kernel
theorem d_GR_frayed_37 : decode c_GR_frayed 37 = .ok (.aload_n 0, 1) := by decide +kernel
theorem d_GR_frayed_38 : decode c_GR_frayed 38 = .ok (.getfield 35, 3) := by decide +kernel
theorem d_GR_frayed_41 : decode c_GR_frayed 41 = .ok (.iload_n 1, 1) := by decide +kernel
theorem d_GR_frayed_42 : decode c_GR_frayed 42 = .ok (.aload_n 0, 1) := by decide +kernel
theorem d_GR_frayed_43 : decode c_GR_frayed 43 = .ok (.getfield 28, 3) := by decide +kernel
theorem d_GR_frayed_46 : decode c_GR_frayed 46 = .ok (.iconst 1, 1) := by decide +kernel
theorem d_GR_frayed_47 : decode c_GR_frayed 47 = .ok (.iaload, 1) := by decide +kernel
theorem d_GR_frayed_48 : decode c_GR_frayed 48 = .ok (.invokevirtual 201, 3) := by decide +kernel
theorem d_GR_frayed_51 : decode c_GR_frayed 51 = .ok (.ireturn, 1) := by decide +kernel
theorem d_GR_yet_0 : decode c_GR_yet 0 = .ok (.aload_n 0, 1) := by decide +kernel
theorem d_GR_yet_1 : decode c_GR_yet 1 = .ok (.getfield 24, 3) := by decide +kernel
theorem d_GR_yet_4 : decode c_GR_yet 4 = .ok (.iload_n 1, 1) := by decide +kernel
theorem d_GR_yet_5 : decode c_GR_yet 5 = .ok (.invokevirtual 100, 3) := by decide +kernel
theorem d_GR_yet_8 : decode c_GR_yet 8 = .ok (.ifCond .eq 12, 3) := by decide +kernel
theorem d_GR_yet_11 : decode c_GR_yet 11 = .ok (.iload_n 2, 1) := by decide +kernel
theorem d_GR_yet_12 : decode c_GR_yet 12 = .ok (.bipush 10, 2) := by decide +kernel
theorem d_GR_yet_14 : decode c_GR_yet 14 = .ok (.invokestatic 67, 3) := by decide +kernel
theorem d_GR_yet_17 : decode c_GR_yet 17 = .ok (.ifCond .ne 6, 3) := by decide +kernel
theorem d_GR_yet_20 : decode c_GR_yet 20 = .ok (.bipush (-2), 2) := by decide +kernel
theorem d_GR_yet_22 : decode c_GR_yet 22 = .ok (.ireturn, 1) := by decide +kernel
theorem d_GR_yet_23 : decode c_GR_yet 23 = .ok (.iconst 0, 1) := by decide +kernel
theorem d_GR_yet_24 : decode c_GR_yet 24 = .ok (.aload_n 0, 1) := by decide +kernel
theorem d_GR_yet_25 : decode c_GR_yet 25 = .ok (.getfield 28, 3) := by decide +kernel
theorem d_GR_yet_28 : decode c_GR_yet 28 = .ok (.iconst 1, 1) := by decide +kernel
theorem d_GR_yet_29 : decode c_GR_yet 29 = .ok (.iaload, 1) := by decide +kernel
theorem d_GR_yet_30 : decode c_GR_yet 30 = .ok (.aload_n 0, 1) := by decide +kernel
theorem d_GR_yet_31 : decode c_GR_yet 31 = .ok (.getfield 35, 3) := by decide +kernel
theorem d_GR_yet_34 : decode c_GR_yet 34 = .ok (.iload_n 1, 1) := by decide +kernel
theorem d_GR_yet_35 : decode c_GR_yet 35 = .ok (.invokevirtual 198, 3) := by decide +kernel
theorem d_GR_yet_38 : decode c_GR_yet 38 = .ok (.isub, 1) := by decide +kernel
theorem d_GR_yet_39 : decode c_GR_yet 39 = .ok (.invokestatic 204, 3) := by decide +kernel
theorem d_GR_yet_42 : decode c_GR_yet 42 = .ok (.istore_n 3, 1) := by decide +kernel
theorem d_GR_yet_43 : decode c_GR_yet 43 = .ok (.iload_n 3, 1) := by decide +kernel
theorem d_GR_yet_44 : decode c_GR_yet 44 = .ok (.iload_n 2, 1) := by decide +kernel
theorem d_GR_yet_45 : decode c_GR_yet 45 = .ok (.iconst 1, 1) := by decide +kernel
theorem d_GR_yet_46 : decode c_GR_yet 46 = .ok (.iadd, 1) := by decide +kernel
theorem d_GR_yet_47 : decode c_GR_yet 47 = .ok (.idiv, 1) := by decide +kernel
theorem d_GR_yet_48 : decode c_GR_yet 48 = .ok (.ireturn, 1) := by decide +kernel
theorem d_GR_heavy_0 : decode c_GR_heavy 0 = .ok (.iconst 0, 1) := by decide +kernel
theorem d_GR_heavy_1 : decode c_GR_heavy 1 = .ok (.istore_n 1, 1) := by decide +kernel
theorem d_GR_heavy_2 : decode c_GR_heavy 2 = .ok (.iconst 0, 1) := by decide +kernel
theorem d_GR_heavy_3 : decode c_GR_heavy 3 = .ok (.istore_n 2, 1) := by decide +kernel
theorem d_GR_heavy_4 : decode c_GR_heavy 4 = .ok (.iload_n 2, 1) := by decide +kernel
theorem d_GR_heavy_5 : decode c_GR_heavy 5 = .ok (.aload_n 0, 1) := by decide +kernel
theorem d_GR_heavy_6 : decode c_GR_heavy 6 = .ok (.getfield 35, 3) := by decide +kernel
theorem d_GR_heavy_9 : decode c_GR_heavy 9 = .ok (.getfield 154, 3) := by decide +kernel
theorem d_GR_heavy_12 : decode c_GR_heavy 12 = .ok (.if_icmp .ge 59, 3) := by decide +kernel
theorem d_GR_heavy_15 : decode c_GR_heavy 15 = .ok (.aload_n 0, 1) := by decide +kernel
theorem d_GR_heavy_16 : decode c_GR_heavy 16 = .ok (.getfield 35, 3) := by decide +kernel
theorem d_GR_heavy_19 : decode c_GR_heavy 19 = .ok (.iload_n 2, 1) := by decide +kernel
theorem d_GR_heavy_20 : decode c_GR_heavy 20 = .ok (.invokevirtual 209, 3) := by decide +kernel
theorem d_GR_heavy_23 : decode c_GR_heavy 23 = .ok (.astore_n 3, 1) := by decide +kernel
theorem d_GR_heavy_24 : decode c_GR_heavy 24 = .ok (.aload_n 0, 1) := by decide +kernel
theorem d_GR_heavy_25 : decode c_GR_heavy 25 = .ok (.getfield 24, 3) := by decide +kernel
theorem d_GR_heavy_28 : decode c_GR_heavy 28 = .ok (.aload_n 3, 1) := by decide +kernel
theorem d_GR_heavy_29 : decode c_GR_heavy 29 = .ok (.getfield 212, 3) := by decide +kernel
theorem d_GR_heavy_32 : decode c_GR_heavy 32 = .ok (.invokevirtual 100, 3) := by decide +kernel
theorem d_GR_heavy_35 : decode c_GR_heavy 35 = .ok (.ifCond .eq 30, 3) := by decide +kernel
theorem d_GR_heavy_38 : decode c_GR_heavy 38 = .ok (.aload_n 3, 1) := by decide +kernel
theorem d_GR_heavy_39 : decode c_GR_heavy 39 = .ok (.getfield 217, 3) := by decide +kernel
theorem d_GR_heavy_42 : decode c_GR_heavy 42 = .ok (.aload_n 0, 1) := by decide +kernel
theorem d_GR_heavy_43 : decode c_GR_heavy 43 = .ok (.getfield 24, 3) := by decide +kernel
theorem d_GR_heavy_46 : decode c_GR_heavy 46 = .ok (.aload_n 3, 1) := by decide +kernel
theorem d_GR_heavy_47 : decode c_GR_heavy 47 = .ok (.getfield 212, 3) := by decide +kernel
theorem d_GR_heavy_50 : decode c_GR_heavy 50 = .ok (.invokevirtual 104, 3) := by decide +kernel
theorem d_GR_heavy_53 : decode c_GR_heavy 53 = .ok (.getfield 220, 3) := by decide +kernel
theorem d_GR_heavy_56 : decode c_GR_heavy 56 = .ok (.if_icmp .le 9, 3) := by decide +kernel
theorem d_GR_heavy_59 : decode c_GR_heavy 59 = .ok (.iload_n 1, 1) := by decide +kernel
theorem d_GR_heavy_60 : decode c_GR_heavy 60 = .ok (.iconst 1, 1) := by decide +kernel
theorem d_GR_heavy_61 : decode c_GR_heavy 61 = .ok (.iload_n 2, 1) := by decide +kernel
theorem d_GR_heavy_62 : decode c_GR_heavy 62 = .ok (.ishl, 1) := by decide +kernel
theorem d_GR_heavy_63 : decode c_GR_heavy 63 = .ok (.ior, 1) := by decide +kernel
theorem d_GR_heavy_64 : decode c_GR_heavy 64 = .ok (.istore_n 1, 1) := by decide +kernel
theorem d_GR_heavy_65 : decode c_GR_heavy 65 = .ok (.iinc 2 1, 3) := by decide +kernel
theorem d_GR_heavy_68 : decode c_GR_heavy 68 = .ok (.goto (-64), 3) := by decide +kernel
theorem d_GR_heavy_71 : decode c_GR_heavy 71 = .ok (.iload_n 1, 1) := by decide +kernel
theorem d_GR_heavy_72 : decode c_GR_heavy 72 = .ok (.ireturn, 1) := by decide +kernel
theorem d_Tt_windLot_0 : decode c_Tt_windLot 0 = .ok (.aload_n 0, 1) := by decide +kernel
theorem d_Tt_windLot_1 : decode c_Tt_windLot 1 = .ok (.ldc 53, 2) := by decide +kernel
theorem d_Tt_windLot_3 : decode c_Tt_windLot 3 = .ok (.aload_n 0, 1) := by decide +kernel
theorem d_Tt_windLot_4 : decode c_Tt_windLot 4 = .ok (.getfield 46, 3) := by decide +kernel
theorem d_Tt_windLot_7 : decode c_Tt_windLot 7 = .ok (.imul, 1) := by decide +kernel
theorem d_Tt_windLot_8 : decode c_Tt_windLot 8 = .ok (.sipush 12345, 3) := by decide +kernel
theorem d_Tt_windLot_11 : decode c_Tt_windLot 11 = .ok (.iadd, 1) := by decide +kernel
theorem d_Tt_windLot_12 : decode c_Tt_windLot 12 = .ok (.putfield 46, 3) := by decide +kernel
theorem d_Tt_windLot_15 : decode c_Tt_windLot 15 = .ok (.aload_n 0, 1) := by decide +kernel
theorem d_Tt_windLot_16 : decode c_Tt_windLot 16 = .ok (.getfield 46, 3) := by decide +kernel
theorem d_Tt_windLot_19 : decode c_Tt_windLot 19 = .ok (.bipush 16, 2) := by decide +kernel
theorem d_Tt_windLot_21 : decode c_Tt_windLot 21 = .ok (.iushr, 1) := by decide +kernel
theorem d_Tt_windLot_22 : decode c_Tt_windLot 22 = .ok (.iconst 4, 1) := by decide +kernel
theorem d_Tt_windLot_23 : decode c_Tt_windLot 23 = .ok (.irem, 1) := by decide +kernel
theorem d_Tt_windLot_24 : decode c_Tt_windLot 24 = .ok (.ireturn, 1) := by decide +kernel
theorem d_Tt_beginBlown_0 : decode c_Tt_beginBlown 0 = .ok (.aload_n 0, 1) := by decide +kernel
theorem d_Tt_beginBlown_1 : decode c_Tt_beginBlown 1 = .ok (.iload_n 3, 1) := by decide +kernel
theorem d_Tt_beginBlown_2 : decode c_Tt_beginBlown 2 = .ok (.putfield 46, 3) := by decide +kernel
theorem d_Tt_beginBlown_5 : decode c_Tt_beginBlown 5 = .ok (.iconst 0, 1) := by decide +kernel
theorem d_Tt_beginBlown_6 : decode c_Tt_beginBlown 6 = .ok (.istore 4, 2) := by decide +kernel
theorem d_Tt_beginBlown_8 : decode c_Tt_beginBlown 8 = .ok (.iload 4, 2) := by decide +kernel
theorem d_Tt_beginBlown_10 : decode c_Tt_beginBlown 10 = .ok (.aload_n 2, 1) := by decide +kernel
theorem d_Tt_beginBlown_11 : decode c_Tt_beginBlown 11 = .ok (.getfield 19, 3) := by decide +kernel
theorem d_Tt_beginBlown_14 : decode c_Tt_beginBlown 14 = .ok (.if_icmp .ge 49, 3) := by decide +kernel
theorem d_Tt_beginBlown_17 : decode c_Tt_beginBlown 17 = .ok (.aload_n 2, 1) := by decide +kernel
theorem d_Tt_beginBlown_18 : decode c_Tt_beginBlown 18 = .ok (.iload 4, 2) := by decide +kernel
theorem d_Tt_beginBlown_20 : decode c_Tt_beginBlown 20 = .ok (.invokevirtual 25, 3) := by decide +kernel
theorem d_Tt_beginBlown_23 : decode c_Tt_beginBlown 23 = .ok (.astore 5, 2) := by decide +kernel
theorem d_Tt_beginBlown_25 : decode c_Tt_beginBlown 25 = .ok (.aload_n 0, 1) := by decide +kernel
theorem d_Tt_beginBlown_26 : decode c_Tt_beginBlown 26 = .ok (.iload 4, 2) := by decide +kernel
theorem d_Tt_beginBlown_28 : decode c_Tt_beginBlown 28 = .ok (.aload_n 1, 1) := by decide +kernel
theorem d_Tt_beginBlown_29 : decode c_Tt_beginBlown 29 = .ok (.aload 5, 2) := by decide +kernel
theorem d_Tt_beginBlown_31 : decode c_Tt_beginBlown 31 = .ok (.getfield 29, 3) := by decide +kernel
theorem d_Tt_beginBlown_34 : decode c_Tt_beginBlown 34 = .ok (.invokevirtual 34, 3) := by decide +kernel
theorem d_Tt_beginBlown_37 : decode c_Tt_beginBlown 37 = .ok (.ifCond .eq 16, 3) := by decide +kernel
theorem d_Tt_beginBlown_40 : decode c_Tt_beginBlown 40 = .ok (.aload 5, 2) := by decide +kernel
theorem d_Tt_beginBlown_42 : decode c_Tt_beginBlown 42 = .ok (.getfield 40, 3) := by decide +kernel
theorem d_Tt_beginBlown_45 : decode c_Tt_beginBlown 45 = .ok (.aload_n 0, 1) := by decide +kernel
theorem d_Tt_beginBlown_46 : decode c_Tt_beginBlown 46 = .ok (.invokevirtual 49, 3) := by decide +kernel
theorem d_Tt_beginBlown_49 : decode c_Tt_beginBlown 49 = .ok (.iadd, 1) := by decide +kernel
theorem d_Tt_beginBlown_50 : decode c_Tt_beginBlown 50 = .ok (.goto 4, 3) := by decide +kernel
theorem d_Tt_beginBlown_53 : decode c_Tt_beginBlown 53 = .ok (.iconst (-1), 1) := by decide +kernel
theorem d_Tt_beginBlown_54 : decode c_Tt_beginBlown 54 = .ok (.invokevirtual 43, 3) := by decide +kernel
theorem d_Tt_beginBlown_57 : decode c_Tt_beginBlown 57 = .ok (.iinc 4 1, 3) := by decide +kernel
theorem d_Tt_beginBlown_60 : decode c_Tt_beginBlown 60 = .ok (.goto (-52), 3) := by decide +kernel
theorem d_Tt_beginBlown_63 : decode c_Tt_beginBlown 63 = .ok (.return_, 1) := by decide +kernel
theorem d_GR_wind_0 : decode c_GR_wind 0 = .ok (.aload_n 0, 1) := by decide +kernel
theorem d_GR_wind_1 : decode c_GR_wind 1 = .ok (.getfield 42, 3) := by decide +kernel
theorem d_GR_wind_4 : decode c_GR_wind 4 = .ok (.aload_n 0, 1) := by decide +kernel
theorem d_GR_wind_5 : decode c_GR_wind 5 = .ok (.getfield 24, 3) := by decide +kernel
theorem d_GR_wind_8 : decode c_GR_wind 8 = .ok (.aload_n 0, 1) := by decide +kernel
theorem d_GR_wind_9 : decode c_GR_wind 9 = .ok (.getfield 35, 3) := by decide +kernel
theorem d_GR_wind_12 : decode c_GR_wind 12 = .ok (.iload_n 1, 1) := by decide +kernel
theorem d_GR_wind_13 : decode c_GR_wind 13 = .ok (.invokevirtual 223, 3) := by decide +kernel
theorem d_GR_wind_16 : decode c_GR_wind 16 = .ok (.aload_n 0, 1) := by decide +kernel
theorem d_GR_wind_17 : decode c_GR_wind 17 = .ok (.getfield 42, 3) := by decide +kernel
theorem d_GR_wind_20 : decode c_GR_wind 20 = .ok (.aload_n 0, 1) := by decide +kernel
theorem d_GR_wind_21 : decode c_GR_wind 21 = .ok (.getfield 24, 3) := by decide +kernel
theorem d_GR_wind_24 : decode c_GR_wind 24 = .ok (.aload_n 0, 1) := by decide +kernel
theorem d_GR_wind_25 : decode c_GR_wind 25 = .ok (.getfield 35, 3) := by decide +kernel
theorem d_GR_wind_28 : decode c_GR_wind 28 = .ok (.aload_n 0, 1) := by decide +kernel
theorem d_GR_wind_29 : decode c_GR_wind 29 = .ok (.getfield 28, 3) := by decide +kernel
theorem d_GR_wind_32 : decode c_GR_wind 32 = .ok (.iconst 0, 1) := by decide +kernel
theorem d_GR_wind_33 : decode c_GR_wind 33 = .ok (.iaload, 1) := by decide +kernel
theorem d_GR_wind_34 : decode c_GR_wind 34 = .ok (.invokevirtual 187, 3) := by decide +kernel
theorem d_GR_wind_37 : decode c_GR_wind 37 = .ok (.ireturn, 1) := by decide +kernel
theorem d_Mi_isFull_0 : decode c_Mi_isFull 0 = .ok (.aload_n 0, 1) := by decide +kernel
theorem d_Mi_isFull_1 : decode c_Mi_isFull 1 = .ok (.getfield 31, 3) := by decide +kernel
theorem d_Mi_isFull_4 : decode c_Mi_isFull 4 = .ok (.iconst 5, 1) := by decide +kernel
theorem d_Mi_isFull_5 : decode c_Mi_isFull 5 = .ok (.if_icmp .lt 7, 3) := by decide +kernel
theorem d_Mi_isFull_8 : decode c_Mi_isFull 8 = .ok (.iconst 1, 1) := by decide +kernel
theorem d_Mi_isFull_9 : decode c_Mi_isFull 9 = .ok (.goto 4, 3) := by decide +kernel
theorem d_Mi_isFull_12 : decode c_Mi_isFull 12 = .ok (.iconst 0, 1) := by decide +kernel
theorem d_Mi_isFull_13 : decode c_Mi_isFull 13 = .ok (.ireturn, 1) := by decide +kernel
theorem d_Mi_append_0 : decode c_Mi_append 0 = .ok (.aload_n 0, 1) := by decide +kernel
theorem d_Mi_append_1 : decode c_Mi_append 1 = .ok (.getfield 31, 3) := by decide +kernel
theorem d_Mi_append_4 : decode c_Mi_append 4 = .ok (.iconst 5, 1) := by decide +kernel
theorem d_Mi_append_5 : decode c_Mi_append 5 = .ok (.invokestatic 35, 3) := by decide +kernel
theorem d_Mi_append_8 : decode c_Mi_append 8 = .ok (.ifCond .eq 33, 3) := by decide +kernel
theorem d_Mi_append_11 : decode c_Mi_append 11 = .ok (.aload_n 0, 1) := by decide +kernel
theorem d_Mi_append_12 : decode c_Mi_append 12 = .ok (.getfield 9, 3) := by decide +kernel
theorem d_Mi_append_15 : decode c_Mi_append 15 = .ok (.aload_n 0, 1) := by decide +kernel
theorem d_Mi_append_16 : decode c_Mi_append 16 = .ok (.getfield 31, 3) := by decide +kernel
theorem d_Mi_append_19 : decode c_Mi_append 19 = .ok (.iload_n 1, 1) := by decide +kernel
theorem d_Mi_append_20 : decode c_Mi_append 20 = .ok (.iastore, 1) := by decide +kernel
theorem d_Mi_append_21 : decode c_Mi_append 21 = .ok (.aload_n 0, 1) := by decide +kernel
theorem d_Mi_append_22 : decode c_Mi_append 22 = .ok (.getfield 15, 3) := by decide +kernel
theorem d_Mi_append_25 : decode c_Mi_append 25 = .ok (.aload_n 0, 1) := by decide +kernel
theorem d_Mi_append_26 : decode c_Mi_append 26 = .ok (.getfield 31, 3) := by decide +kernel
theorem d_Mi_append_29 : decode c_Mi_append 29 = .ok (.iload_n 2, 1) := by decide +kernel
theorem d_Mi_append_30 : decode c_Mi_append 30 = .ok (.iastore, 1) := by decide +kernel
theorem d_Mi_append_31 : decode c_Mi_append 31 = .ok (.aload_n 0, 1) := by decide +kernel
theorem d_Mi_append_32 : decode c_Mi_append 32 = .ok (.dup, 1) := by decide +kernel
theorem d_Mi_append_33 : decode c_Mi_append 33 = .ok (.getfield 31, 3) := by decide +kernel
theorem d_Mi_append_36 : decode c_Mi_append 36 = .ok (.iconst 1, 1) := by decide +kernel
theorem d_Mi_append_37 : decode c_Mi_append 37 = .ok (.iadd, 1) := by decide +kernel
theorem d_Mi_append_38 : decode c_Mi_append 38 = .ok (.putfield 31, 3) := by decide +kernel
theorem d_Mi_append_41 : decode c_Mi_append 41 = .ok (.return_, 1) := by decide +kernel
theorem d_GR_part_0 : decode c_GR_part 0 = .ok (.iload_n 1, 1) := by decide +kernel
theorem d_GR_part_1 : decode c_GR_part 1 = .ok (.bipush 10, 2) := by decide +kernel
theorem d_GR_part_3 : decode c_GR_part 3 = .ok (.invokestatic 67, 3) := by decide +kernel
theorem d_GR_part_6 : decode c_GR_part 6 = .ok (.ifCond .eq 11, 3) := by decide +kernel
theorem d_GR_part_9 : decode c_GR_part 9 = .ok (.iload_n 2, 1) := by decide +kernel
theorem d_GR_part_10 : decode c_GR_part 10 = .ok (.iconst 3, 1) := by decide +kernel
theorem d_GR_part_11 : decode c_GR_part 11 = .ok (.invokestatic 67, 3) := by decide +kernel
theorem d_GR_part_14 : decode c_GR_part 14 = .ok (.ifCond .ne 6, 3) := by decide +kernel
theorem d_GR_part_17 : decode c_GR_part 17 = .ok (.bipush (-2), 2) := by decide +kernel
theorem d_GR_part_19 : decode c_GR_part 19 = .ok (.ireturn, 1) := by decide +kernel
theorem d_GR_part_20 : decode c_GR_part 20 = .ok (.aload_n 0, 1) := by decide +kernel
theorem d_GR_part_21 : decode c_GR_part 21 = .ok (.getfield 49, 3) := by decide +kernel
theorem d_GR_part_24 : decode c_GR_part 24 = .ok (.invokevirtual 226, 3) := by decide +kernel
theorem d_GR_part_27 : decode c_GR_part 27 = .ok (.ifCond .eq 6, 3) := by decide +kernel
theorem d_GR_part_30 : decode c_GR_part 30 = .ok (.bipush (-4), 2) := by decide +kernel
theorem d_GR_part_32 : decode c_GR_part 32 = .ok (.ireturn, 1) := by decide +kernel
theorem d_GR_part_33 : decode c_GR_part 33 = .ok (.aload_n 0, 1) := by decide +kernel
theorem d_GR_part_34 : decode c_GR_part 34 = .ok (.getfield 49, 3) := by decide +kernel
theorem d_GR_part_37 : decode c_GR_part 37 = .ok (.iload_n 1, 1) := by decide +kernel
theorem d_GR_part_38 : decode c_GR_part 38 = .ok (.iload_n 2, 1) := by decide +kernel
theorem d_GR_part_39 : decode c_GR_part 39 = .ok (.invokevirtual 227, 3) := by decide +kernel
theorem d_GR_part_42 : decode c_GR_part 42 = .ok (.aload_n 0, 1) := by decide +kernel
theorem d_GR_part_43 : decode c_GR_part 43 = .ok (.getfield 49, 3) := by decide +kernel
theorem d_GR_part_46 : decode c_GR_part 46 = .ok (.getfield 230, 3) := by decide +kernel
theorem d_GR_part_49 : decode c_GR_part 49 = .ok (.iconst 1, 1) := by decide +kernel
theorem d_GR_part_50 : decode c_GR_part 50 = .ok (.isub, 1) := by decide +kernel
theorem d_GR_part_51 : decode c_GR_part 51 = .ok (.ireturn, 1) := by decide +kernel
theorem d_Mi_drop_0 : decode c_Mi_drop 0 = .ok (.aload_n 0, 1) := by decide +kernel
theorem d_Mi_drop_1 : decode c_Mi_drop 1 = .ok (.getfield 31, 3) := by decide +kernel
theorem d_Mi_drop_4 : decode c_Mi_drop 4 = .ok (.istore_n 1, 1) := by decide +kernel
theorem d_Mi_drop_5 : decode c_Mi_drop 5 = .ok (.aload_n 0, 1) := by decide +kernel
theorem d_Mi_drop_6 : decode c_Mi_drop 6 = .ok (.iconst 0, 1) := by decide +kernel
theorem d_Mi_drop_7 : decode c_Mi_drop 7 = .ok (.putfield 31, 3) := by decide +kernel
theorem d_Mi_drop_10 : decode c_Mi_drop 10 = .ok (.iload_n 1, 1) := by decide +kernel
theorem d_Mi_drop_11 : decode c_Mi_drop 11 = .ok (.ireturn, 1) := by decide +kernel
theorem d_GR_gone_0 : decode c_GR_gone 0 = .ok (.aload_n 0, 1) := by decide +kernel
theorem d_GR_gone_1 : decode c_GR_gone 1 = .ok (.getfield 49, 3) := by decide +kernel
theorem d_GR_gone_4 : decode c_GR_gone 4 = .ok (.invokevirtual 231, 3) := by decide +kernel
theorem d_GR_gone_7 : decode c_GR_gone 7 = .ok (.ireturn, 1) := by decide +kernel
theorem d_Mi_rowShift_0 : decode c_Mi_rowShift 0 = .ok (.iconst 3, 1) := by decide +kernel
theorem d_Mi_rowShift_1 : decode c_Mi_rowShift 1 = .ok (.iconst 4, 1) := by decide +kernel
theorem d_Mi_rowShift_2 : decode c_Mi_rowShift 2 = .ok (.iload_n 0, 1) := by decide +kernel
theorem d_Mi_rowShift_3 : decode c_Mi_rowShift 3 = .ok (.isub, 1) := by decide +kernel
theorem d_Mi_rowShift_4 : decode c_Mi_rowShift 4 = .ok (.imul, 1) := by decide +kernel
theorem d_Mi_rowShift_5 : decode c_Mi_rowShift 5 = .ok (.ireturn, 1) := by decide +kernel
theorem d_Mi_keyOf_0 : decode c_Mi_keyOf 0 = .ok (.iload_n 3, 1) := by decide +kernel
theorem d_Mi_keyOf_1 : decode c_Mi_keyOf 1 = .ok (.iconst 5, 1) := by decide +kernel
theorem d_Mi_keyOf_2 : decode c_Mi_keyOf 2 = .ok (.invokestatic 35, 3) := by decide +kernel
theorem d_Mi_keyOf_5 : decode c_Mi_keyOf 5 = .ok (.ifCond .eq 29, 3) := by decide +kernel
theorem d_Mi_keyOf_8 : decode c_Mi_keyOf 8 = .ok (.aload_n 1, 1) := by decide +kernel
theorem d_Mi_keyOf_9 : decode c_Mi_keyOf 9 = .ok (.getfield 74, 3) := by decide +kernel
theorem d_Mi_keyOf_12 : decode c_Mi_keyOf 12 = .ok (.aload_n 0, 1) := by decide +kernel
theorem d_Mi_keyOf_13 : decode c_Mi_keyOf 13 = .ok (.getfield 15, 3) := by decide +kernel
theorem d_Mi_keyOf_16 : decode c_Mi_keyOf 16 = .ok (.iload_n 3, 1) := by decide +kernel
theorem d_Mi_keyOf_17 : decode c_Mi_keyOf 17 = .ok (.iaload, 1) := by decide +kernel
theorem d_Mi_keyOf_18 : decode c_Mi_keyOf 18 = .ok (.if_icmp .ne 16, 3) := by decide +kernel
theorem d_Mi_keyOf_21 : decode c_Mi_keyOf 21 = .ok (.aload_n 1, 1) := by decide +kernel
theorem d_Mi_keyOf_22 : decode c_Mi_keyOf 22 = .ok (.getfield 76, 3) := by decide +kernel
theorem d_Mi_keyOf_25 : decode c_Mi_keyOf 25 = .ok (.aload_n 0, 1) := by decide +kernel
theorem d_Mi_keyOf_26 : decode c_Mi_keyOf 26 = .ok (.getfield 9, 3) := by decide +kernel
theorem d_Mi_keyOf_29 : decode c_Mi_keyOf 29 = .ok (.iload_n 3, 1) := by decide +kernel
theorem d_Mi_keyOf_30 : decode c_Mi_keyOf 30 = .ok (.iaload, 1) := by decide +kernel
theorem d_Mi_keyOf_31 : decode c_Mi_keyOf 31 = .ok (.if_icmp .ge 6, 3) := by decide +kernel
theorem d_Mi_keyOf_34 : decode c_Mi_keyOf 34 = .ok (.ldc 45, 2) := by decide +kernel
theorem d_Mi_keyOf_36 : decode c_Mi_keyOf 36 = .ok (.ireturn, 1) := by decide +kernel
theorem d_Mi_keyOf_37 : decode c_Mi_keyOf 37 = .ok (.aload_n 1, 1) := by decide +kernel
theorem d_Mi_keyOf_38 : decode c_Mi_keyOf 38 = .ok (.iconst 0, 1) := by decide +kernel
theorem d_Mi_keyOf_39 : decode c_Mi_keyOf 39 = .ok (.aload_n 0, 1) := by decide +kernel
theorem d_Mi_keyOf_40 : decode c_Mi_keyOf 40 = .ok (.getfield 9, 3) := by decide +kernel
theorem d_Mi_keyOf_43 : decode c_Mi_keyOf 43 = .ok (.iload_n 3, 1) := by decide +kernel
theorem d_Mi_keyOf_44 : decode c_Mi_keyOf 44 = .ok (.iaload, 1) := by decide +kernel
theorem d_Mi_keyOf_45 : decode c_Mi_keyOf 45 = .ok (.invokevirtual 79, 3) := by decide +kernel
theorem d_Mi_keyOf_48 : decode c_Mi_keyOf 48 = .ok (.bipush 15, 2) := by decide +kernel
theorem d_Mi_keyOf_50 : decode c_Mi_keyOf 50 = .ok (.ishl, 1) := by decide +kernel
theorem d_Mi_keyOf_51 : decode c_Mi_keyOf 51 = .ok (.iload_n 2, 1) := by decide +kernel
theorem d_Mi_keyOf_52 : decode c_Mi_keyOf 52 = .ok (.iload_n 3, 1) := by decide +kernel
theorem d_Mi_keyOf_53 : decode c_Mi_keyOf 53 = .ok (.invokestatic 82, 3) := by decide +kernel
theorem d_Mi_keyOf_56 : decode c_Mi_keyOf 56 = .ok (.ishl, 1) := by decide +kernel
theorem d_Mi_keyOf_57 : decode c_Mi_keyOf 57 = .ok (.iadd, 1) := by decide +kernel
theorem d_Mi_keyOf_58 : decode c_Mi_keyOf 58 = .ok (.ireturn, 1) := by decide +kernel
def f_Ts_frayOf_38 (k4 : Sg → Int32 → Int32 → Int32 → Option Int32) (σ : Sg) (v1 : Int32) (v2 : Int32) (v3 : Int32) : Option Int32 :=
  k4 σ v1 v2 (v3 + 1)
set_option maxHeartbeats 4000000 in
theorem j_Ts_frayOf_38 {V : Vx} {X : Xx} {σ : Sg} {r : Int32} {k4 : Sg → Int32 → Int32 → Int32 → Option Int32} (hk4 : ∀ (v1 : Int32) (v2 : Int32) (v3 : Int32), k4 σ v1 v2 v3 = some r → J V X (k2_rm 2 43) c_Ts_frayOf R_Ts 5 (some .int) (Qr V X (some (.int r)) σ) σ 4 [(0, rf V 18), (1, .int v1), (2, .int v2), (3, .int v3)] []) (v1 : Int32) (v2 : Int32) (v3 : Int32) (hf : f_Ts_frayOf_38 k4 σ v1 v2 v3 = some r) : J V X (k2_rm 2 43) c_Ts_frayOf R_Ts 5 (some .int) (Qr V X (some (.int r)) σ) σ 38 [(0, rf V 18), (1, .int v1), (2, .int v2), (3, .int v3)] [] := by
  unfold f_Ts_frayOf_38 at hf
  refine J_iinc (pc' := 41) (j := 3) (v := 1) (lv' := [(3, .int (v3 + 1)), (0, rf V 18), (1, .int v1), (2, .int v2)]) d_Ts_frayOf_38 rfl rfl ic_1 (by decide) rfl ?_
  refine J_goto (tgt := 4) d_Ts_frayOf_41 (by decide) ?_
  refine J_pick [1, 2, 3, 0] rfl ?_
  exact hk4 _ _ _ hf
def f_Ts_frayOf_4 : Nat → Sg → Int32 → Int32 → Int32 → Option Int32
  | 0, _, _, _, _ => none
  | n + 1, σ, v1, v2, v3 =>
    if (σ.1 18 2) ≤ v3 then
      some v2
    else
      if (σ.1 (f_Ts_at v3) 0) = v1 then f_Ts_frayOf_38 (f_Ts_frayOf_4 n) σ v1 (v2 + ((σ.1 (f_Ts_at v3) 3) + 1)) v3 else f_Ts_frayOf_38 (f_Ts_frayOf_4 n) σ v1 v2 v3
theorem f_Ts_frayOf_4_s (n : Nat) (σ : Sg) (v1 : Int32) (v2 : Int32) (v3 : Int32) : f_Ts_frayOf_4 (n + 1) σ v1 v2 v3 =
    if (σ.1 18 2) ≤ v3 then
      some v2
    else
      if (σ.1 (f_Ts_at v3) 0) = v1 then f_Ts_frayOf_38 (f_Ts_frayOf_4 n) σ v1 (v2 + ((σ.1 (f_Ts_at v3) 3) + 1)) v3 else f_Ts_frayOf_38 (f_Ts_frayOf_4 n) σ v1 v2 v3 := rfl
set_option maxHeartbeats 4000000 in
theorem j_Ts_frayOf_4 {V : Vx} {X : Xx} {σ : Sg} {r : Int32}  : ∀ (n : Nat) (v1 : Int32) (v2 : Int32) (v3 : Int32), f_Ts_frayOf_4 n σ v1 v2 v3 = some r → J V X (k2_rm 2 43) c_Ts_frayOf R_Ts 5 (some .int) (Qr V X (some (.int r)) σ) σ 4 [(0, rf V 18), (1, .int v1), (2, .int v2), (3, .int v3)] [] := by
  intro n
  induction n with
  | zero => intro v1 v2 v3 hf; exact nn hf
  | succ n ih =>
    intro v1 v2 v3 hf
    rw [f_Ts_frayOf_4_s] at hf
    refine J_iload_n (pc' := 5) d_Ts_frayOf_4 rfl 3 rfl ?_
    refine J_aload_n (pc' := 6) d_Ts_frayOf_5 rfl 0 rfl ?_
    refine J_getI (pc' := 9) d_Ts_frayOf_6 rfl sh_18 fl_Ts_22 rfl ?_
    refine J_icmp_ge (pc' := 12) (tgt := 44) d_Ts_frayOf_9 rfl (by decide) (fun hc1 => ?_) (fun hc1 => ?_)
    · have hf := brT hc1 hf
      refine J_iload_n (pc' := 45) d_Ts_frayOf_44 rfl 2 rfl ?_
      obtain rfl := Option.some.inj hf
      exact J_iret d_Ts_frayOf_45
    · have hf := brF hc1 hf
      refine J_aload_n (pc' := 13) d_Ts_frayOf_12 rfl 0 rfl ?_
      refine J_iload_n (pc' := 14) d_Ts_frayOf_13 rfl 3 rfl ?_
      refine J_V (pc' := 17) (as := [.int v3]) (rest := []) (st' := [rf V (f_Ts_at v3)]) d_Ts_frayOf_14 rfl sh_18 rfl mv_Ts_34 (ct_Ts_at V _ σ v3) rfl rfl ⟨Nat.le_of_ble_eq_true rfl, Nat.le_of_ble_eq_true rfl⟩ ⟨rfl, rfl⟩ (Nat.le_of_ble_eq_true rfl) rfl ?_
      refine J_astore (pc' := 19) (lv' := [(4, rf V (f_Ts_at v3)), (0, rf V 18), (1, .int v1), (2, .int v2), (3, .int v3)]) d_Ts_frayOf_17 rfl (by decide) rfl ?_
      refine J_aload (pc' := 21) d_Ts_frayOf_19 rfl 0 rfl ?_
      refine J_getI (pc' := 24) d_Ts_frayOf_21 rfl (sh_Tr (is_Ts_at v3)) fl_Ts_38 rfl ?_
      refine J_iload_n (pc' := 25) d_Ts_frayOf_24 rfl 2 rfl ?_
      refine J_icmp_ne (pc' := 28) (tgt := 38) d_Ts_frayOf_25 rfl (by decide) (fun hc2 => ?_) (fun hc2 => ?_)
      · have hf := brF hc2 hf
        refine J_pick [1, 2, 3, 4] rfl ?_
        exact j_Ts_frayOf_38 ih _ _ _ hf
      · have hf := brT hc2 hf
        refine J_iload_n (pc' := 29) d_Ts_frayOf_28 rfl 3 rfl ?_
        refine J_aload (pc' := 31) d_Ts_frayOf_29 rfl 0 rfl ?_
        refine J_getI (pc' := 34) d_Ts_frayOf_31 rfl (sh_Tr (is_Ts_at v3)) fl_Ts_47 rfl ?_
        refine J_iconst (pc' := 35) (v := 1) d_Ts_frayOf_34 rfl ic_1 ?_
        refine J_iadd (pc' := 36) d_Ts_frayOf_35 rfl ?_
        refine J_iadd (pc' := 37) d_Ts_frayOf_36 rfl ?_
        refine J_istore_n (pc' := 38) (lv' := [(2, .int (v2 + ((σ.1 (f_Ts_at v3) 3) + 1))), (4, rf V (f_Ts_at v3)), (0, rf V 18), (1, .int v1), (3, .int v3)]) d_Ts_frayOf_37 rfl rfl (by decide) rfl ?_
        refine J_pick [2, 3, 0, 4] rfl ?_
        exact j_Ts_frayOf_38 ih _ _ _ hf
def f_Ts_frayOf (σ : Sg) (v1 : Int32) : Option Int32 :=
  f_Ts_frayOf_4 FU σ v1 0 0
set_option maxHeartbeats 4000000 in
theorem j_Ts_frayOf {V : Vx} {X : Xx} {r : Int32} (σ : Sg) (v1 : Int32) (hf : f_Ts_frayOf σ v1 = some r) : J V X (k2_rm 2 43) c_Ts_frayOf R_Ts 5 (some .int) (Qr V X (some (.int r)) σ) σ 0 [(0, rf V 18), (1, .int v1)] [] := by
  unfold f_Ts_frayOf at hf
  refine J_iconst (pc' := 1) (v := 0) d_Ts_frayOf_0 rfl ic_0 ?_
  refine J_istore_n (pc' := 2) (lv' := [(2, .int 0), (0, rf V 18), (1, .int v1)]) d_Ts_frayOf_1 rfl rfl (by decide) rfl ?_
  refine J_iconst (pc' := 3) (v := 0) d_Ts_frayOf_2 rfl ic_0 ?_
  refine J_istore_n (pc' := 4) (lv' := [(3, .int 0), (2, .int 0), (0, rf V 18), (1, .int v1)]) d_Ts_frayOf_3 rfl rfl (by decide) rfl ?_
  refine J_pick [2, 3, 1, 0] rfl ?_
  exact j_Ts_frayOf_4 FU _ _ _ hf
theorem ct_Ts_frayOf (V : Vx) (l : Launch) (σ : Sg) (v1 : Int32) {r : Int32} (hf : f_Ts_frayOf σ v1 = some r) : Ct V l y_Ts_frayOf c_Ts_frayOf 5 (some .int) (k2_rm 2 43) [rf V 18, .int v1] σ (some (.int r)) σ := Ct.ofJ (by decide +kernel) (Nat.le_of_ble_eq_true rfl) fun X _ => j_Ts_frayOf _ v1 hf
def f_GR_frayed (σ : Sg) (v1 : Int32) (v2 : Int32) : Option Int32 :=
  if (f_Rs_has σ v1) = 0 then
    some (-2)
  else
    if (f_GR_isBelow v2 2) = 0 then
      some (-2)
    else
      if v2 = 0 then
        (f_Ts_frayOf σ v1).bind fun r7 =>
          some r7
      else
        (f_Ts_breakerOf σ v1 (σ.1 17 1)).bind fun r5 =>
          some r5
set_option maxHeartbeats 4000000 in
theorem j_GR_frayed {V : Vx} {X : Xx} {r : Int32} (σ : Sg) (v1 : Int32) (v2 : Int32) (hf : f_GR_frayed σ v1 v2 = some r) : J V X (k2_rm 3 68) c_GR_frayed R_GR 3 (some .int) (Qr V X (some (.int r)) σ) σ 0 [(0, rf V 0), (1, .int v1), (2, .int v2)] [] := by
  unfold f_GR_frayed at hf
  refine J_aload_n (pc' := 1) d_GR_frayed_0 rfl 0 rfl ?_
  refine J_getR (pc' := 4) d_GR_frayed_1 rfl sh_0 fl_GR_24 rfl ?_
  refine J_iload_n (pc' := 5) d_GR_frayed_4 rfl 1 rfl ?_
  refine J_V (pc' := 8) (as := [.int v1]) (rest := []) (st' := [.int (f_Rs_has σ v1)]) d_GR_frayed_5 rfl sh_5 rfl mv_GR_100 (ct_Rs_has V _ σ v1) rfl rfl ⟨Nat.le_of_ble_eq_true rfl, Nat.le_of_ble_eq_true rfl⟩ ⟨rfl, rfl⟩ (Nat.le_of_ble_eq_true rfl) rfl ?_
  refine J_if_eq (pc' := 11) (tgt := 19) d_GR_frayed_8 rfl (by decide) (fun hc1 => ?_) (fun hc1 => ?_)
  · have hf := brT hc1 hf
    refine J_bipush (pc' := 21) (v := (-2)) d_GR_frayed_19 rfl bc_m2 ?_
    obtain rfl := Option.some.inj hf
    exact J_iret d_GR_frayed_21
  · have hf := brF hc1 hf
    refine J_iload_n (pc' := 12) d_GR_frayed_11 rfl 2 rfl ?_
    refine J_iconst (pc' := 13) (v := 2) d_GR_frayed_12 rfl ic_2 ?_
    refine J_S (pc' := 16) (as := [.int v2, .int 2]) (rest := []) (st' := [.int (f_GR_isBelow v2 2)]) d_GR_frayed_13 rfl ms_GR_67 (ct_GR_isBelow V _ σ v2 2) rfl rfl ⟨Nat.le_of_ble_eq_true rfl, Nat.le_of_ble_eq_true rfl⟩ ⟨rfl, rfl⟩ (Nat.le_of_ble_eq_true rfl) rfl ?_
    refine J_if_ne (pc' := 19) (tgt := 22) d_GR_frayed_16 rfl (by decide) (fun hc2 => ?_) (fun hc2 => ?_)
    · have hf := brF hc2 hf
      refine J_iload_n (pc' := 23) d_GR_frayed_22 rfl 2 rfl ?_
      refine J_if_ne (pc' := 26) (tgt := 37) d_GR_frayed_23 rfl (by decide) (fun hc3 => ?_) (fun hc3 => ?_)
      · have hf := brF hc3 hf
        refine J_aload_n (pc' := 38) d_GR_frayed_37 rfl 0 rfl ?_
        refine J_getR (pc' := 41) d_GR_frayed_38 rfl sh_0 fl_GR_35 rfl ?_
        refine J_iload_n (pc' := 42) d_GR_frayed_41 rfl 1 rfl ?_
        refine J_aload_n (pc' := 43) d_GR_frayed_42 rfl 0 rfl ?_
        refine J_getR (pc' := 46) d_GR_frayed_43 rfl sh_0 fl_GR_28 rfl ?_
        refine J_iconst (pc' := 47) (v := 1) d_GR_frayed_46 rfl ic_1 ?_
        refine J_ial (pc' := 48) d_GR_frayed_47 rfl sh_17 (vin_c (by decide)) ?_
        obtain ⟨r5, hq4, hf⟩ := bpE hf
        refine J_V (pc' := 51) (as := [.int v1, .int (σ.1 17 1)]) (rest := []) (st' := [.int r5]) d_GR_frayed_48 rfl sh_18 rfl mv_GR_201 (ct_Ts_breakerOf V _ σ v1 (σ.1 17 1) hq4) rfl rfl ⟨Nat.le_of_ble_eq_true rfl, Nat.le_of_ble_eq_true rfl⟩ ⟨rfl, rfl⟩ (Nat.le_of_ble_eq_true rfl) rfl ?_
        obtain rfl := Option.some.inj hf
        exact J_iret d_GR_frayed_51
      · have hf := brT hc3 hf
        refine J_aload_n (pc' := 27) d_GR_frayed_26 rfl 0 rfl ?_
        refine J_getR (pc' := 30) d_GR_frayed_27 rfl sh_0 fl_GR_35 rfl ?_
        refine J_iload_n (pc' := 31) d_GR_frayed_30 rfl 1 rfl ?_
        obtain ⟨r7, hq6, hf⟩ := bpE hf
        refine J_V (pc' := 34) (as := [.int v1]) (rest := []) (st' := [.int r7]) d_GR_frayed_31 rfl sh_18 rfl mv_GR_198 (ct_Ts_frayOf V _ σ v1 hq6) rfl rfl ⟨Nat.le_of_ble_eq_true rfl, Nat.le_of_ble_eq_true rfl⟩ ⟨rfl, rfl⟩ (Nat.le_of_ble_eq_true rfl) rfl ?_
        refine J_goto (tgt := 51) d_GR_frayed_34 (by decide) ?_
        obtain rfl := Option.some.inj hf
        exact J_iret d_GR_frayed_51
    · have hf := brT hc2 hf
      refine J_bipush (pc' := 21) (v := (-2)) d_GR_frayed_19 rfl bc_m2 ?_
      obtain rfl := Option.some.inj hf
      exact J_iret d_GR_frayed_21
theorem ct_GR_frayed (V : Vx) (l : Launch) (σ : Sg) (v1 : Int32) (v2 : Int32) {r : Int32} (hf : f_GR_frayed σ v1 v2 = some r) : Ct V l y_GR_frayed c_GR_frayed 3 (some .int) (k2_rm 3 68) [rf V 0, .int v1, .int v2] σ (some (.int r)) σ := Ct.ofJ (by decide +kernel) (Nat.le_of_ble_eq_true rfl) fun X _ => j_GR_frayed _ v1 v2 hf
def f_GR_yet (σ : Sg) (v1 : Int32) (v2 : Int32) : Option Int32 :=
  if (f_Rs_has σ v1) = 0 then
    some (-2)
  else
    if (f_GR_isBelow v2 10) = 0 then
      some (-2)
    else
      (f_Ts_frayOf σ v1).bind fun r4 =>
        gd (decide (¬ v2 + 1 = 0)) (
          some ((f_JM_max 0 ((σ.1 17 1) - r4)) / (v2 + 1)))
set_option maxHeartbeats 4000000 in
theorem j_GR_yet {V : Vx} {X : Xx} {r : Int32} (σ : Sg) (v1 : Int32) (v2 : Int32) (hf : f_GR_yet σ v1 v2 = some r) : J V X (k2_rm 3 67) c_GR_yet R_GR 4 (some .int) (Qr V X (some (.int r)) σ) σ 0 [(0, rf V 0), (1, .int v1), (2, .int v2)] [] := by
  unfold f_GR_yet at hf
  refine J_aload_n (pc' := 1) d_GR_yet_0 rfl 0 rfl ?_
  refine J_getR (pc' := 4) d_GR_yet_1 rfl sh_0 fl_GR_24 rfl ?_
  refine J_iload_n (pc' := 5) d_GR_yet_4 rfl 1 rfl ?_
  refine J_V (pc' := 8) (as := [.int v1]) (rest := []) (st' := [.int (f_Rs_has σ v1)]) d_GR_yet_5 rfl sh_5 rfl mv_GR_100 (ct_Rs_has V _ σ v1) rfl rfl ⟨Nat.le_of_ble_eq_true rfl, Nat.le_of_ble_eq_true rfl⟩ ⟨rfl, rfl⟩ (Nat.le_of_ble_eq_true rfl) rfl ?_
  refine J_if_eq (pc' := 11) (tgt := 20) d_GR_yet_8 rfl (by decide) (fun hc1 => ?_) (fun hc1 => ?_)
  · have hf := brT hc1 hf
    refine J_bipush (pc' := 22) (v := (-2)) d_GR_yet_20 rfl bc_m2 ?_
    obtain rfl := Option.some.inj hf
    exact J_iret d_GR_yet_22
  · have hf := brF hc1 hf
    refine J_iload_n (pc' := 12) d_GR_yet_11 rfl 2 rfl ?_
    refine J_bipush (pc' := 14) (v := 10) d_GR_yet_12 rfl bc_10 ?_
    refine J_S (pc' := 17) (as := [.int v2, .int 10]) (rest := []) (st' := [.int (f_GR_isBelow v2 10)]) d_GR_yet_14 rfl ms_GR_67 (ct_GR_isBelow V _ σ v2 10) rfl rfl ⟨Nat.le_of_ble_eq_true rfl, Nat.le_of_ble_eq_true rfl⟩ ⟨rfl, rfl⟩ (Nat.le_of_ble_eq_true rfl) rfl ?_
    refine J_if_ne (pc' := 20) (tgt := 23) d_GR_yet_17 rfl (by decide) (fun hc2 => ?_) (fun hc2 => ?_)
    · have hf := brF hc2 hf
      refine J_iconst (pc' := 24) (v := 0) d_GR_yet_23 rfl ic_0 ?_
      refine J_aload_n (pc' := 25) d_GR_yet_24 rfl 0 rfl ?_
      refine J_getR (pc' := 28) d_GR_yet_25 rfl sh_0 fl_GR_28 rfl ?_
      refine J_iconst (pc' := 29) (v := 1) d_GR_yet_28 rfl ic_1 ?_
      refine J_ial (pc' := 30) d_GR_yet_29 rfl sh_17 (vin_c (by decide)) ?_
      refine J_aload_n (pc' := 31) d_GR_yet_30 rfl 0 rfl ?_
      refine J_getR (pc' := 34) d_GR_yet_31 rfl sh_0 fl_GR_35 rfl ?_
      refine J_iload_n (pc' := 35) d_GR_yet_34 rfl 1 rfl ?_
      obtain ⟨r4, hq3, hf⟩ := bpE hf
      refine J_V (pc' := 38) (as := [.int v1]) (rest := [.int (σ.1 17 1), .int 0]) (st' := [.int r4, .int (σ.1 17 1), .int 0]) d_GR_yet_35 rfl sh_18 rfl mv_GR_198 (ct_Ts_frayOf V _ σ v1 hq3) rfl rfl ⟨Nat.le_of_ble_eq_true rfl, Nat.le_of_ble_eq_true rfl⟩ ⟨rfl, rfl⟩ (Nat.le_of_ble_eq_true rfl) rfl ?_
      refine J_isub (pc' := 39) d_GR_yet_38 rfl ?_
      refine J_S (pc' := 42) (as := [.int 0, .int ((σ.1 17 1) - r4)]) (rest := []) (st' := [.int (f_JM_max 0 ((σ.1 17 1) - r4))]) d_GR_yet_39 rfl ms_GR_204 (ct_JM_max V _ σ 0 ((σ.1 17 1) - r4)) rfl rfl ⟨Nat.le_of_ble_eq_true rfl, Nat.le_of_ble_eq_true rfl⟩ ⟨rfl, rfl⟩ (Nat.le_of_ble_eq_true rfl) rfl ?_
      refine J_istore_n (pc' := 43) (lv' := [(3, .int (f_JM_max 0 ((σ.1 17 1) - r4))), (0, rf V 0), (1, .int v1), (2, .int v2)]) d_GR_yet_42 rfl rfl (by decide) rfl ?_
      refine J_iload_n (pc' := 44) d_GR_yet_43 rfl 0 rfl ?_
      refine J_iload_n (pc' := 45) d_GR_yet_44 rfl 3 rfl ?_
      refine J_iconst (pc' := 46) (v := 1) d_GR_yet_45 rfl ic_1 ?_
      refine J_iadd (pc' := 47) d_GR_yet_46 rfl ?_
      obtain ⟨hg5, hf⟩ := gdE hf
      refine J_idiv (pc' := 48) d_GR_yet_47 rfl (of_decide_eq_true hg5) ?_
      obtain rfl := Option.some.inj hf
      exact J_iret d_GR_yet_48
    · have hf := brT hc2 hf
      refine J_bipush (pc' := 22) (v := (-2)) d_GR_yet_20 rfl bc_m2 ?_
      obtain rfl := Option.some.inj hf
      exact J_iret d_GR_yet_22
theorem ct_GR_yet (V : Vx) (l : Launch) (σ : Sg) (v1 : Int32) (v2 : Int32) {r : Int32} (hf : f_GR_yet σ v1 v2 = some r) : Ct V l y_GR_yet c_GR_yet 4 (some .int) (k2_rm 3 67) [rf V 0, .int v1, .int v2] σ (some (.int r)) σ := Ct.ofJ (by decide +kernel) (Nat.le_of_ble_eq_true rfl) fun X _ => j_GR_yet _ v1 v2 hf
def f_GR_heavy_65 (k4 : Sg → Int32 → Int32 → Option Int32) (σ : Sg) (v1 : Int32) (v2 : Int32) : Option Int32 :=
  k4 σ v1 (v2 + 1)
set_option maxHeartbeats 4000000 in
theorem j_GR_heavy_65 {V : Vx} {X : Xx} {σ : Sg} {r : Int32} {k4 : Sg → Int32 → Int32 → Option Int32} (hk4 : ∀ (v1 : Int32) (v2 : Int32), k4 σ v1 v2 = some r → J V X (k2_rm 2 43) c_GR_heavy R_GR 4 (some .int) (Qr V X (some (.int r)) σ) σ 4 [(0, rf V 0), (1, .int v1), (2, .int v2)] []) (v1 : Int32) (v2 : Int32) (hf : f_GR_heavy_65 k4 σ v1 v2 = some r) : J V X (k2_rm 2 43) c_GR_heavy R_GR 4 (some .int) (Qr V X (some (.int r)) σ) σ 65 [(0, rf V 0), (1, .int v1), (2, .int v2)] [] := by
  unfold f_GR_heavy_65 at hf
  refine J_iinc (pc' := 68) (j := 2) (v := 1) (lv' := [(2, .int (v2 + 1)), (0, rf V 0), (1, .int v1)]) d_GR_heavy_65 rfl rfl ic_1 (by decide) rfl ?_
  refine J_goto (tgt := 4) d_GR_heavy_68 (by decide) ?_
  refine J_pick [1, 2, 0] rfl ?_
  exact hk4 _ _ hf
def f_GR_heavy_4 : Nat → Sg → Int32 → Int32 → Option Int32
  | 0, _, _, _ => none
  | n + 1, σ, v1, v2 =>
    if (σ.1 18 2) ≤ v2 then
      some v1
    else
      if (f_Rs_has σ (σ.1 (f_Ts_at v2) 0)) = 0 then
        f_GR_heavy_65 (f_GR_heavy_4 n) σ v1 v2
      else
        if (σ.1 (f_Ts_at v2) 3) ≤ (σ.1 (f_Rs_at (σ.1 (f_Ts_at v2) 0)) 3) then f_GR_heavy_65 (f_GR_heavy_4 n) σ v1 v2 else f_GR_heavy_65 (f_GR_heavy_4 n) σ (v1 ||| (1 <<< (v2 &&& 31))) v2
theorem f_GR_heavy_4_s (n : Nat) (σ : Sg) (v1 : Int32) (v2 : Int32) : f_GR_heavy_4 (n + 1) σ v1 v2 =
    if (σ.1 18 2) ≤ v2 then
      some v1
    else
      if (f_Rs_has σ (σ.1 (f_Ts_at v2) 0)) = 0 then
        f_GR_heavy_65 (f_GR_heavy_4 n) σ v1 v2
      else
        if (σ.1 (f_Ts_at v2) 3) ≤ (σ.1 (f_Rs_at (σ.1 (f_Ts_at v2) 0)) 3) then f_GR_heavy_65 (f_GR_heavy_4 n) σ v1 v2 else f_GR_heavy_65 (f_GR_heavy_4 n) σ (v1 ||| (1 <<< (v2 &&& 31))) v2 := rfl
set_option maxHeartbeats 4000000 in
theorem j_GR_heavy_4 {V : Vx} {X : Xx} {σ : Sg} {r : Int32}  : ∀ (n : Nat) (v1 : Int32) (v2 : Int32), f_GR_heavy_4 n σ v1 v2 = some r → J V X (k2_rm 2 43) c_GR_heavy R_GR 4 (some .int) (Qr V X (some (.int r)) σ) σ 4 [(0, rf V 0), (1, .int v1), (2, .int v2)] [] := by
  intro n
  induction n with
  | zero => intro v1 v2 hf; exact nn hf
  | succ n ih =>
    intro v1 v2 hf
    rw [f_GR_heavy_4_s] at hf
    refine J_iload_n (pc' := 5) d_GR_heavy_4 rfl 2 rfl ?_
    refine J_aload_n (pc' := 6) d_GR_heavy_5 rfl 0 rfl ?_
    refine J_getR (pc' := 9) d_GR_heavy_6 rfl sh_0 fl_GR_35 rfl ?_
    refine J_getI (pc' := 12) d_GR_heavy_9 rfl sh_18 fl_GR_154 rfl ?_
    refine J_icmp_ge (pc' := 15) (tgt := 71) d_GR_heavy_12 rfl (by decide) (fun hc1 => ?_) (fun hc1 => ?_)
    · have hf := brT hc1 hf
      refine J_iload_n (pc' := 72) d_GR_heavy_71 rfl 1 rfl ?_
      obtain rfl := Option.some.inj hf
      exact J_iret d_GR_heavy_72
    · have hf := brF hc1 hf
      refine J_aload_n (pc' := 16) d_GR_heavy_15 rfl 0 rfl ?_
      refine J_getR (pc' := 19) d_GR_heavy_16 rfl sh_0 fl_GR_35 rfl ?_
      refine J_iload_n (pc' := 20) d_GR_heavy_19 rfl 2 rfl ?_
      refine J_V (pc' := 23) (as := [.int v2]) (rest := []) (st' := [rf V (f_Ts_at v2)]) d_GR_heavy_20 rfl sh_18 rfl mv_GR_209 (ct_Ts_at V _ σ v2) rfl rfl ⟨Nat.le_of_ble_eq_true rfl, Nat.le_of_ble_eq_true rfl⟩ ⟨rfl, rfl⟩ (Nat.le_of_ble_eq_true rfl) rfl ?_
      refine J_astore_n (pc' := 24) (lv' := [(3, rf V (f_Ts_at v2)), (0, rf V 0), (1, .int v1), (2, .int v2)]) d_GR_heavy_23 rfl rfl (by decide) rfl ?_
      refine J_aload_n (pc' := 25) d_GR_heavy_24 rfl 1 rfl ?_
      refine J_getR (pc' := 28) d_GR_heavy_25 rfl sh_0 fl_GR_24 rfl ?_
      refine J_aload_n (pc' := 29) d_GR_heavy_28 rfl 0 rfl ?_
      refine J_getI (pc' := 32) d_GR_heavy_29 rfl (sh_Tr (is_Ts_at v2)) fl_GR_212 rfl ?_
      refine J_V (pc' := 35) (as := [.int (σ.1 (f_Ts_at v2) 0)]) (rest := []) (st' := [.int (f_Rs_has σ (σ.1 (f_Ts_at v2) 0))]) d_GR_heavy_32 rfl sh_5 rfl mv_GR_100 (ct_Rs_has V _ σ (σ.1 (f_Ts_at v2) 0)) rfl rfl ⟨Nat.le_of_ble_eq_true rfl, Nat.le_of_ble_eq_true rfl⟩ ⟨rfl, rfl⟩ (Nat.le_of_ble_eq_true rfl) rfl ?_
      refine J_if_eq (pc' := 38) (tgt := 65) d_GR_heavy_35 rfl (by decide) (fun hc2 => ?_) (fun hc2 => ?_)
      · have hf := brT hc2 hf
        refine J_pick [1, 2, 3] rfl ?_
        exact j_GR_heavy_65 ih _ _ hf
      · have hf := brF hc2 hf
        refine J_aload_n (pc' := 39) d_GR_heavy_38 rfl 0 rfl ?_
        refine J_getI (pc' := 42) d_GR_heavy_39 rfl (sh_Tr (is_Ts_at v2)) fl_GR_217 rfl ?_
        refine J_aload_n (pc' := 43) d_GR_heavy_42 rfl 1 rfl ?_
        refine J_getR (pc' := 46) d_GR_heavy_43 rfl sh_0 fl_GR_24 rfl ?_
        refine J_aload_n (pc' := 47) d_GR_heavy_46 rfl 0 rfl ?_
        refine J_getI (pc' := 50) d_GR_heavy_47 rfl (sh_Tr (is_Ts_at v2)) fl_GR_212 rfl ?_
        refine J_V (pc' := 53) (as := [.int (σ.1 (f_Ts_at v2) 0)]) (rest := [.int (σ.1 (f_Ts_at v2) 3)]) (st' := [rf V (f_Rs_at (σ.1 (f_Ts_at v2) 0)), .int (σ.1 (f_Ts_at v2) 3)]) d_GR_heavy_50 rfl sh_5 rfl mv_GR_104 (ct_Rs_at V _ σ (σ.1 (f_Ts_at v2) 0)) rfl rfl ⟨Nat.le_of_ble_eq_true rfl, Nat.le_of_ble_eq_true rfl⟩ ⟨rfl, rfl⟩ (Nat.le_of_ble_eq_true rfl) rfl ?_
        refine J_getI (pc' := 56) d_GR_heavy_53 rfl (sh_Ro (is_Rs_at (σ.1 (f_Ts_at v2) 0))) fl_GR_220 rfl ?_
        refine J_icmp_le (pc' := 59) (tgt := 65) d_GR_heavy_56 rfl (by decide) (fun hc3 => ?_) (fun hc3 => ?_)
        · have hf := brT hc3 hf
          refine J_pick [1, 2, 3] rfl ?_
          exact j_GR_heavy_65 ih _ _ hf
        · have hf := brF hc3 hf
          refine J_iload_n (pc' := 60) d_GR_heavy_59 rfl 2 rfl ?_
          refine J_iconst (pc' := 61) (v := 1) d_GR_heavy_60 rfl ic_1 ?_
          refine J_iload_n (pc' := 62) d_GR_heavy_61 rfl 3 rfl ?_
          refine J_ishl (pc' := 63) d_GR_heavy_62 rfl ?_
          refine J_ior (pc' := 64) d_GR_heavy_63 rfl ?_
          refine J_istore_n (pc' := 65) (lv' := [(1, .int (v1 ||| (1 <<< (v2 &&& 31)))), (3, rf V (f_Ts_at v2)), (0, rf V 0), (2, .int v2)]) d_GR_heavy_64 rfl rfl (by decide) rfl ?_
          refine J_pick [2, 0, 3] rfl ?_
          exact j_GR_heavy_65 ih _ _ hf
def f_GR_heavy (σ : Sg)  : Option Int32 :=
  f_GR_heavy_4 FU σ 0 0
set_option maxHeartbeats 4000000 in
theorem j_GR_heavy {V : Vx} {X : Xx} {r : Int32} (σ : Sg) (hf : f_GR_heavy σ = some r) : J V X (k2_rm 2 43) c_GR_heavy R_GR 4 (some .int) (Qr V X (some (.int r)) σ) σ 0 [(0, rf V 0)] [] := by
  unfold f_GR_heavy at hf
  refine J_iconst (pc' := 1) (v := 0) d_GR_heavy_0 rfl ic_0 ?_
  refine J_istore_n (pc' := 2) (lv' := [(1, .int 0), (0, rf V 0)]) d_GR_heavy_1 rfl rfl (by decide) rfl ?_
  refine J_iconst (pc' := 3) (v := 0) d_GR_heavy_2 rfl ic_0 ?_
  refine J_istore_n (pc' := 4) (lv' := [(2, .int 0), (1, .int 0), (0, rf V 0)]) d_GR_heavy_3 rfl rfl (by decide) rfl ?_
  refine J_pick [2, 1, 0] rfl ?_
  exact j_GR_heavy_4 FU _ _ hf
theorem ct_GR_heavy (V : Vx) (l : Launch) (σ : Sg) {r : Int32} (hf : f_GR_heavy σ = some r) : Ct V l y_GR_heavy c_GR_heavy 4 (some .int) (k2_rm 2 43) [rf V 0] σ (some (.int r)) σ := Ct.ofJ (by decide +kernel) (Nat.le_of_ble_eq_true rfl) fun X _ => j_GR_heavy _  hf
def f_Tt_windLot (σ : Sg)  : Option (Int32 × Sg) :=
  some ((us ((pI σ 41 1 ((1103515245 * (σ.1 41 1)) + 12345)).1 41 1) 16) - (us ((pI σ 41 1 ((1103515245 * (σ.1 41 1)) + 12345)).1 41 1) 16) / 4 * 4, (pI σ 41 1 ((1103515245 * (σ.1 41 1)) + 12345)))
set_option maxHeartbeats 4000000 in
theorem j_Tt_windLot {V : Vx} {X : Xx} {r : Int32} {σ' : Sg} (σ : Sg) (hf : f_Tt_windLot σ = some (r, σ')) : J V X (k2_rm 0 0) c_Tt_windLot R_Tt 1 (some .int) (Qr V X (some (.int r)) σ') σ 0 [(0, rf V 41)] [] := by
  unfold f_Tt_windLot at hf
  refine J_aload_n (pc' := 1) d_Tt_windLot_0 rfl 0 rfl ?_
  refine J_ldc (pc' := 3) (v := 1103515245) d_Tt_windLot_1 rfl cw_Tt_53 ?_
  refine J_aload_n (pc' := 4) d_Tt_windLot_3 rfl 0 rfl ?_
  refine J_getI (pc' := 7) d_Tt_windLot_4 rfl sh_41 fl_Tt_46 rfl ?_
  refine J_imul (pc' := 8) d_Tt_windLot_7 rfl ?_
  refine J_sipush (pc' := 11) (v := 12345) d_Tt_windLot_8 rfl sc_12345 ?_
  refine J_iadd (pc' := 12) d_Tt_windLot_11 rfl ?_
  refine J_putI (pc' := 15) d_Tt_windLot_12 rfl sh_41 fp_Tt_46 rfl ?_
  refine J_aload_n (pc' := 16) d_Tt_windLot_15 rfl 0 rfl ?_
  refine J_getI (pc' := 19) d_Tt_windLot_16 rfl sh_41 fl_Tt_46 rfl ?_
  refine J_bipush (pc' := 21) (v := 16) d_Tt_windLot_19 rfl bc_16 ?_
  refine J_iushr (pc' := 22) d_Tt_windLot_21 rfl ?_
  refine J_iconst (pc' := 23) (v := 4) d_Tt_windLot_22 rfl ic_4 ?_
  refine J_irem (pc' := 24) d_Tt_windLot_23 rfl (by decide) ?_
  obtain ⟨rfl, rfl⟩ := resE hf
  exact J_iret d_Tt_windLot_24
theorem ct_Tt_windLot (V : Vx) (l : Launch) (σ : Sg) {r : Int32} {σ' : Sg} (hf : f_Tt_windLot σ = some (r, σ')) : Ct V l y_Tt_windLot c_Tt_windLot 1 (some .int) (k2_rm 0 0) [rf V 41] σ (some (.int r)) σ' := Ct.ofJ (by decide +kernel) (Nat.le_of_ble_eq_true rfl) fun X _ => j_Tt_windLot _  hf
def f_Tt_beginBlown_54 (k8 : Sg → Int32 → Option Sg) (σ : Sg) (v4 : Int32) (s0 : Int32) (s1 : Int32) : Option Sg :=
  (f_Tt_begin σ s1 s0).bind fun σ4 =>
    k8 σ4 (v4 + 1)
set_option maxHeartbeats 4000000 in
theorem j_Tt_beginBlown_54 {V : Vx} {X : Xx} {σ' : Sg} {k8 : Sg → Int32 → Option Sg} (hk8 : ∀ (σ : Sg) (v4 : Int32), k8 σ v4 = some σ' → J V X (k2_rm 2 43) c_Tt_beginBlown R_Tt 6 none (Qr V X none σ') σ 8 [(0, rf V 41), (1, rf V 5), (2, rf V 18), (4, .int v4)] []) (σ : Sg) (v4 : Int32) (s0 : Int32) (s1 : Int32) (hf : f_Tt_beginBlown_54 k8 σ v4 s0 s1 = some σ') : J V X (k2_rm 2 43) c_Tt_beginBlown R_Tt 6 none (Qr V X none σ') σ 54 [(0, rf V 41), (1, rf V 5), (2, rf V 18), (4, .int v4)] [.int s0, .int s1, rf V 41] := by
  unfold f_Tt_beginBlown_54 at hf
  obtain ⟨σ4, hq3, hf⟩ := bpE hf
  refine J_V (pc' := 57) (as := [.int s1, .int s0]) (rest := []) (st' := []) d_Tt_beginBlown_54 rfl sh_41 rfl mv_Tt_43 (ct_Tt_begin V _ σ s1 s0 hq3) rfl rfl ⟨Nat.le_of_ble_eq_true rfl, Nat.le_of_ble_eq_true rfl⟩ ⟨rfl, rfl⟩ (Nat.le_of_ble_eq_true rfl) rfl ?_
  refine J_iinc (pc' := 60) (j := 3) (v := 1) (lv' := [(4, .int (v4 + 1)), (0, rf V 41), (1, rf V 5), (2, rf V 18)]) d_Tt_beginBlown_57 rfl rfl ic_1 (by decide) rfl ?_
  refine J_goto (tgt := 8) d_Tt_beginBlown_60 (by decide) ?_
  refine J_pick [1, 2, 3, 0] rfl ?_
  exact hk8 _ _ hf
def f_Tt_beginBlown_8 : Nat → Sg → Int32 → Option Sg
  | 0, _, _ => none
  | n + 1, σ, v4 =>
    if (σ.1 18 2) ≤ v4 then
      some σ
    else
      if (f_Rs_has σ (σ.1 (f_Ts_at v4) 0)) = 0 then
        f_Tt_beginBlown_54 (f_Tt_beginBlown_8 n) σ v4 (-1) v4
      else
        bd (f_Tt_windLot σ) fun r7 σ6 =>
          f_Tt_beginBlown_54 (f_Tt_beginBlown_8 n) σ6 v4 ((σ.1 (f_Ts_at v4) 2) + r7) v4
theorem f_Tt_beginBlown_8_s (n : Nat) (σ : Sg) (v4 : Int32) : f_Tt_beginBlown_8 (n + 1) σ v4 =
    if (σ.1 18 2) ≤ v4 then
      some σ
    else
      if (f_Rs_has σ (σ.1 (f_Ts_at v4) 0)) = 0 then
        f_Tt_beginBlown_54 (f_Tt_beginBlown_8 n) σ v4 (-1) v4
      else
        bd (f_Tt_windLot σ) fun r7 σ6 =>
          f_Tt_beginBlown_54 (f_Tt_beginBlown_8 n) σ6 v4 ((σ.1 (f_Ts_at v4) 2) + r7) v4 := rfl
set_option maxHeartbeats 4000000 in
theorem j_Tt_beginBlown_8 {V : Vx} {X : Xx} {σ' : Sg}  : ∀ (n : Nat) (σ : Sg) (v4 : Int32), f_Tt_beginBlown_8 n σ v4 = some σ' → J V X (k2_rm 2 43) c_Tt_beginBlown R_Tt 6 none (Qr V X none σ') σ 8 [(0, rf V 41), (1, rf V 5), (2, rf V 18), (4, .int v4)] [] := by
  intro n
  induction n with
  | zero => intro σ v4 hf; exact nn hf
  | succ n ih =>
    intro σ v4 hf
    rw [f_Tt_beginBlown_8_s] at hf
    refine J_iload (pc' := 10) d_Tt_beginBlown_8 rfl 3 rfl ?_
    refine J_aload_n (pc' := 11) d_Tt_beginBlown_10 rfl 2 rfl ?_
    refine J_getI (pc' := 14) d_Tt_beginBlown_11 rfl sh_18 fl_Tt_19 rfl ?_
    refine J_icmp_ge (pc' := 17) (tgt := 63) d_Tt_beginBlown_14 rfl (by decide) (fun hc1 => ?_) (fun hc1 => ?_)
    · have hf := brT hc1 hf
      obtain rfl := Option.some.inj hf
      exact J_vret d_Tt_beginBlown_63
    · have hf := brF hc1 hf
      refine J_aload_n (pc' := 18) d_Tt_beginBlown_17 rfl 2 rfl ?_
      refine J_iload (pc' := 20) d_Tt_beginBlown_18 rfl 3 rfl ?_
      refine J_V (pc' := 23) (as := [.int v4]) (rest := []) (st' := [rf V (f_Ts_at v4)]) d_Tt_beginBlown_20 rfl sh_18 rfl mv_Tt_25 (ct_Ts_at V _ σ v4) rfl rfl ⟨Nat.le_of_ble_eq_true rfl, Nat.le_of_ble_eq_true rfl⟩ ⟨rfl, rfl⟩ (Nat.le_of_ble_eq_true rfl) rfl ?_
      refine J_astore (pc' := 25) (lv' := [(5, rf V (f_Ts_at v4)), (0, rf V 41), (1, rf V 5), (2, rf V 18), (4, .int v4)]) d_Tt_beginBlown_23 rfl (by decide) rfl ?_
      refine J_aload_n (pc' := 26) d_Tt_beginBlown_25 rfl 1 rfl ?_
      refine J_iload (pc' := 28) d_Tt_beginBlown_26 rfl 4 rfl ?_
      refine J_aload_n (pc' := 29) d_Tt_beginBlown_28 rfl 2 rfl ?_
      refine J_aload (pc' := 31) d_Tt_beginBlown_29 rfl 0 rfl ?_
      refine J_getI (pc' := 34) d_Tt_beginBlown_31 rfl (sh_Tr (is_Ts_at v4)) fl_Tt_29 rfl ?_
      refine J_V (pc' := 37) (as := [.int (σ.1 (f_Ts_at v4) 0)]) (rest := [.int v4, rf V 41]) (st' := [.int (f_Rs_has σ (σ.1 (f_Ts_at v4) 0)), .int v4, rf V 41]) d_Tt_beginBlown_34 rfl sh_5 rfl mv_Tt_34 (ct_Rs_has V _ σ (σ.1 (f_Ts_at v4) 0)) rfl rfl ⟨Nat.le_of_ble_eq_true rfl, Nat.le_of_ble_eq_true rfl⟩ ⟨rfl, rfl⟩ (Nat.le_of_ble_eq_true rfl) rfl ?_
      refine J_if_eq (pc' := 40) (tgt := 53) d_Tt_beginBlown_37 rfl (by decide) (fun hc2 => ?_) (fun hc2 => ?_)
      · have hf := brT hc2 hf
        refine J_iconst (pc' := 54) (v := (-1)) d_Tt_beginBlown_53 rfl ic_m1 ?_
        refine J_pick [1, 2, 3, 4] rfl ?_
        exact j_Tt_beginBlown_54 ih _ _ _ _ hf
      · have hf := brF hc2 hf
        refine J_aload (pc' := 42) d_Tt_beginBlown_40 rfl 0 rfl ?_
        refine J_getI (pc' := 45) d_Tt_beginBlown_42 rfl (sh_Tr (is_Ts_at v4)) fl_Tt_40 rfl ?_
        refine J_aload_n (pc' := 46) d_Tt_beginBlown_45 rfl 1 rfl ?_
        obtain ⟨r7, σ6, hq5, hf⟩ := bdE hf
        refine J_V (pc' := 49) (as := []) (rest := [.int (σ.1 (f_Ts_at v4) 2), .int v4, rf V 41]) (st' := [.int r7, .int (σ.1 (f_Ts_at v4) 2), .int v4, rf V 41]) d_Tt_beginBlown_46 rfl sh_41 rfl mv_Tt_49 (ct_Tt_windLot V _ σ hq5) rfl rfl ⟨Nat.le_of_ble_eq_true rfl, Nat.le_of_ble_eq_true rfl⟩ ⟨rfl, rfl⟩ (Nat.le_of_ble_eq_true rfl) rfl ?_
        refine J_iadd (pc' := 50) d_Tt_beginBlown_49 rfl ?_
        refine J_goto (tgt := 54) d_Tt_beginBlown_50 (by decide) ?_
        refine J_pick [1, 2, 3, 4] rfl ?_
        exact j_Tt_beginBlown_54 ih _ _ _ _ hf
def f_Tt_beginBlown (σ : Sg) (v3 : Int32) : Option Sg :=
  f_Tt_beginBlown_8 FU (pI σ 41 1 v3) 0
set_option maxHeartbeats 4000000 in
theorem j_Tt_beginBlown {V : Vx} {X : Xx} {σ' : Sg} (σ : Sg) (v3 : Int32) (hf : f_Tt_beginBlown σ v3 = some σ') : J V X (k2_rm 2 43) c_Tt_beginBlown R_Tt 6 none (Qr V X none σ') σ 0 [(0, rf V 41), (1, rf V 5), (2, rf V 18), (3, .int v3)] [] := by
  unfold f_Tt_beginBlown at hf
  refine J_aload_n (pc' := 1) d_Tt_beginBlown_0 rfl 0 rfl ?_
  refine J_iload_n (pc' := 2) d_Tt_beginBlown_1 rfl 3 rfl ?_
  refine J_putI (pc' := 5) d_Tt_beginBlown_2 rfl sh_41 fp_Tt_46 rfl ?_
  refine J_iconst (pc' := 6) (v := 0) d_Tt_beginBlown_5 rfl ic_0 ?_
  refine J_istore (pc' := 8) (lv' := [(4, .int 0), (0, rf V 41), (1, rf V 5), (2, rf V 18), (3, .int v3)]) d_Tt_beginBlown_6 rfl (by decide) rfl ?_
  refine J_pick [1, 2, 3, 0] rfl ?_
  exact j_Tt_beginBlown_8 FU _ _ hf
theorem ct_Tt_beginBlown (V : Vx) (l : Launch) (σ : Sg) (v3 : Int32) {σ' : Sg} (hf : f_Tt_beginBlown σ v3 = some σ') : Ct V l y_Tt_beginBlown c_Tt_beginBlown 6 none (k2_rm 2 43) [rf V 41, rf V 5, rf V 18, .int v3] σ none σ' := Ct.ofJ (by decide +kernel) (Nat.le_of_ble_eq_true rfl) fun X _ => j_Tt_beginBlown _ v3 hf
def f_GR_wind (σ : Sg) (v1 : Int32) : Option (Int32 × Sg) :=
  (f_Tt_beginBlown σ v1).bind fun σ2 =>
    (f_Tt_pairs σ2 (σ2.1 17 0)).bind fun r4 =>
      some (r4, σ2)
set_option maxHeartbeats 4000000 in
theorem j_GR_wind {V : Vx} {X : Xx} {r : Int32} {σ' : Sg} (σ : Sg) (v1 : Int32) (hf : f_GR_wind σ v1 = some (r, σ')) : J V X (k2_rm 5 125) c_GR_wind R_GR 2 (some .int) (Qr V X (some (.int r)) σ') σ 0 [(0, rf V 0), (1, .int v1)] [] := by
  unfold f_GR_wind at hf
  refine J_aload_n (pc' := 1) d_GR_wind_0 rfl 0 rfl ?_
  refine J_getR (pc' := 4) d_GR_wind_1 rfl sh_0 fl_GR_42 rfl ?_
  refine J_aload_n (pc' := 5) d_GR_wind_4 rfl 0 rfl ?_
  refine J_getR (pc' := 8) d_GR_wind_5 rfl sh_0 fl_GR_24 rfl ?_
  refine J_aload_n (pc' := 9) d_GR_wind_8 rfl 0 rfl ?_
  refine J_getR (pc' := 12) d_GR_wind_9 rfl sh_0 fl_GR_35 rfl ?_
  refine J_iload_n (pc' := 13) d_GR_wind_12 rfl 1 rfl ?_
  obtain ⟨σ2, hq1, hf⟩ := bpE hf
  refine J_V (pc' := 16) (as := [rf V 5, rf V 18, .int v1]) (rest := []) (st' := []) d_GR_wind_13 rfl sh_41 rfl mv_GR_223 (ct_Tt_beginBlown V _ σ v1 hq1) rfl rfl ⟨Nat.le_of_ble_eq_true rfl, Nat.le_of_ble_eq_true rfl⟩ ⟨rfl, rfl⟩ (Nat.le_of_ble_eq_true rfl) rfl ?_
  refine J_aload_n (pc' := 17) d_GR_wind_16 rfl 0 rfl ?_
  refine J_getR (pc' := 20) d_GR_wind_17 rfl sh_0 fl_GR_42 rfl ?_
  refine J_aload_n (pc' := 21) d_GR_wind_20 rfl 0 rfl ?_
  refine J_getR (pc' := 24) d_GR_wind_21 rfl sh_0 fl_GR_24 rfl ?_
  refine J_aload_n (pc' := 25) d_GR_wind_24 rfl 0 rfl ?_
  refine J_getR (pc' := 28) d_GR_wind_25 rfl sh_0 fl_GR_35 rfl ?_
  refine J_aload_n (pc' := 29) d_GR_wind_28 rfl 0 rfl ?_
  refine J_getR (pc' := 32) d_GR_wind_29 rfl sh_0 fl_GR_28 rfl ?_
  refine J_iconst (pc' := 33) (v := 0) d_GR_wind_32 rfl ic_0 ?_
  refine J_ial (pc' := 34) d_GR_wind_33 rfl sh_17 (vin_c (by decide)) ?_
  obtain ⟨r4, hq3, hf⟩ := bpE hf
  refine J_V (pc' := 37) (as := [rf V 5, rf V 18, .int (σ2.1 17 0)]) (rest := []) (st' := [.int r4]) d_GR_wind_34 rfl sh_41 rfl mv_GR_187 (ct_Tt_pairs V _ σ2 (σ2.1 17 0) hq3) rfl rfl ⟨Nat.le_of_ble_eq_true rfl, Nat.le_of_ble_eq_true rfl⟩ ⟨rfl, rfl⟩ (Nat.le_of_ble_eq_true rfl) rfl ?_
  obtain ⟨rfl, rfl⟩ := resE hf
  exact J_iret d_GR_wind_37
theorem ct_GR_wind (V : Vx) (l : Launch) (σ : Sg) (v1 : Int32) {r : Int32} {σ' : Sg} (hf : f_GR_wind σ v1 = some (r, σ')) : Ct V l y_GR_wind c_GR_wind 2 (some .int) (k2_rm 5 125) [rf V 0, .int v1] σ (some (.int r)) σ' := Ct.ofJ (by decide +kernel) (Nat.le_of_ble_eq_true rfl) fun X _ => j_GR_wind _ v1 hf
def f_Mi_isFull (σ : Sg)  : Int32 :=
  if (σ.1 43 5) < 5 then 0 else 1
set_option maxHeartbeats 4000000 in
theorem j_Mi_isFull {V : Vx} {X : Xx} {r : Int32} (σ : Sg) (hf : f_Mi_isFull σ = r) : J V X (k2_rm 0 0) c_Mi_isFull R_Mi 1 (some .boolean) (Qr V X (some (.int r)) σ) σ 0 [(0, rf V 43)] [] := by
  unfold f_Mi_isFull at hf
  refine J_aload_n (pc' := 1) d_Mi_isFull_0 rfl 0 rfl ?_
  refine J_getI (pc' := 4) d_Mi_isFull_1 rfl sh_43 fl_Mi_31 rfl ?_
  refine J_iconst (pc' := 5) (v := 5) d_Mi_isFull_4 rfl ic_5 ?_
  refine J_icmp_lt (pc' := 8) (tgt := 12) d_Mi_isFull_5 rfl (by decide) (fun hc1 => ?_) (fun hc1 => ?_)
  · have hf := brT hc1 hf
    refine J_iconst (pc' := 13) (v := 0) d_Mi_isFull_12 rfl ic_0 ?_
    subst hf
    exact J_zret (by decide) d_Mi_isFull_13
  · have hf := brF hc1 hf
    refine J_iconst (pc' := 9) (v := 1) d_Mi_isFull_8 rfl ic_1 ?_
    refine J_goto (tgt := 13) d_Mi_isFull_9 (by decide) ?_
    subst hf
    exact J_zret (by decide) d_Mi_isFull_13
theorem ct_Mi_isFull (V : Vx) (l : Launch) (σ : Sg) : Ct V l y_Mi_isFull c_Mi_isFull 1 (some .boolean) (k2_rm 0 0) [rf V 43] σ (some (.int (f_Mi_isFull σ))) σ := Ct.ofJ (by decide +kernel) (Nat.le_of_ble_eq_true rfl) fun X _ => j_Mi_isFull _  rfl
def f_Mi_append (σ : Sg) (v1 : Int32) (v2 : Int32) : Option Sg :=
  if (f_GR_isBelow (σ.1 43 5) 5) = 0 then
    some σ
  else
    gd (vin ((pI σ 44 (σ.1 43 5).toNatClampNeg v1).1 43 5) 5) (
      some (pI (pI (pI σ 44 (σ.1 43 5).toNatClampNeg v1) 45 ((pI σ 44 (σ.1 43 5).toNatClampNeg v1).1 43 5).toNatClampNeg v2) 43 5 (((pI (pI σ 44 (σ.1 43 5).toNatClampNeg v1) 45 ((pI σ 44 (σ.1 43 5).toNatClampNeg v1).1 43 5).toNatClampNeg v2).1 43 5) + 1)))
set_option maxHeartbeats 4000000 in
theorem j_Mi_append {V : Vx} {X : Xx} {σ' : Sg} (σ : Sg) (v1 : Int32) (v2 : Int32) (hf : f_Mi_append σ v1 v2 = some σ') : J V X (k2_rm 1 21) c_Mi_append R_Mi 3 none (Qr V X none σ') σ 0 [(0, rf V 43), (1, .int v1), (2, .int v2)] [] := by
  unfold f_Mi_append at hf
  refine J_aload_n (pc' := 1) d_Mi_append_0 rfl 0 rfl ?_
  refine J_getI (pc' := 4) d_Mi_append_1 rfl sh_43 fl_Mi_31 rfl ?_
  refine J_iconst (pc' := 5) (v := 5) d_Mi_append_4 rfl ic_5 ?_
  refine J_S (pc' := 8) (as := [.int (σ.1 43 5), .int 5]) (rest := []) (st' := [.int (f_GR_isBelow (σ.1 43 5) 5)]) d_Mi_append_5 rfl ms_Mi_35 (ct_GR_isBelow V _ σ (σ.1 43 5) 5) rfl rfl ⟨Nat.le_of_ble_eq_true rfl, Nat.le_of_ble_eq_true rfl⟩ ⟨rfl, rfl⟩ (Nat.le_of_ble_eq_true rfl) rfl ?_
  refine J_if_eq (pc' := 11) (tgt := 41) d_Mi_append_8 rfl (by decide) (fun hc1 => ?_) (fun hc1 => ?_)
  · have hf := brT hc1 hf
    obtain rfl := Option.some.inj hf
    exact J_vret d_Mi_append_41
  · have hf := brF hc1 hf
    refine J_aload_n (pc' := 12) d_Mi_append_11 rfl 0 rfl ?_
    refine J_getR (pc' := 15) d_Mi_append_12 rfl sh_43 fl_Mi_9 rfl ?_
    refine J_aload_n (pc' := 16) d_Mi_append_15 rfl 0 rfl ?_
    refine J_getI (pc' := 19) d_Mi_append_16 rfl sh_43 fl_Mi_31 rfl ?_
    refine J_iload_n (pc' := 20) d_Mi_append_19 rfl 1 rfl ?_
    refine J_ias (pc' := 21) d_Mi_append_20 rfl sh_44 (vin_b hc1) ?_
    refine J_aload_n (pc' := 22) d_Mi_append_21 rfl 0 rfl ?_
    refine J_getR (pc' := 25) d_Mi_append_22 rfl sh_43 fl_Mi_15 rfl ?_
    refine J_aload_n (pc' := 26) d_Mi_append_25 rfl 0 rfl ?_
    refine J_getI (pc' := 29) d_Mi_append_26 rfl sh_43 fl_Mi_31 rfl ?_
    refine J_iload_n (pc' := 30) d_Mi_append_29 rfl 2 rfl ?_
    obtain ⟨hg2, hf⟩ := gdE hf
    refine J_ias (pc' := 31) d_Mi_append_30 rfl sh_45 (vinP hg2) ?_
    refine J_aload_n (pc' := 32) d_Mi_append_31 rfl 0 rfl ?_
    refine J_dup (pc' := 33) d_Mi_append_32 rfl rfl ?_
    refine J_getI (pc' := 36) d_Mi_append_33 rfl sh_43 fl_Mi_31 rfl ?_
    refine J_iconst (pc' := 37) (v := 1) d_Mi_append_36 rfl ic_1 ?_
    refine J_iadd (pc' := 38) d_Mi_append_37 rfl ?_
    refine J_putI (pc' := 41) d_Mi_append_38 rfl sh_43 fp_Mi_31 rfl ?_
    obtain rfl := Option.some.inj hf
    exact J_vret d_Mi_append_41
theorem ct_Mi_append (V : Vx) (l : Launch) (σ : Sg) (v1 : Int32) (v2 : Int32) {σ' : Sg} (hf : f_Mi_append σ v1 v2 = some σ') : Ct V l y_Mi_append c_Mi_append 3 none (k2_rm 1 21) [rf V 43, .int v1, .int v2] σ none σ' := Ct.ofJ (by decide +kernel) (Nat.le_of_ble_eq_true rfl) fun X _ => j_Mi_append _ v1 v2 hf
def f_GR_part (σ : Sg) (v1 : Int32) (v2 : Int32) : Option (Int32 × Sg) :=
  if (f_GR_isBelow v1 10) = 0 then
    some ((-2), σ)
  else
    if (f_GR_isBelow v2 3) = 0 then
      some ((-2), σ)
    else
      if (f_Mi_isFull σ) = 0 then
        (f_Mi_append σ v1 v2).bind fun σ5 =>
          some ((σ5.1 43 5) - 1, σ5)
      else
        some ((-4), σ)
set_option maxHeartbeats 4000000 in
theorem j_GR_part {V : Vx} {X : Xx} {r : Int32} {σ' : Sg} (σ : Sg) (v1 : Int32) (v2 : Int32) (hf : f_GR_part σ v1 v2 = some (r, σ')) : J V X (k2_rm 2 43) c_GR_part R_GR 3 (some .int) (Qr V X (some (.int r)) σ') σ 0 [(0, rf V 0), (1, .int v1), (2, .int v2)] [] := by
  unfold f_GR_part at hf
  refine J_iload_n (pc' := 1) d_GR_part_0 rfl 1 rfl ?_
  refine J_bipush (pc' := 3) (v := 10) d_GR_part_1 rfl bc_10 ?_
  refine J_S (pc' := 6) (as := [.int v1, .int 10]) (rest := []) (st' := [.int (f_GR_isBelow v1 10)]) d_GR_part_3 rfl ms_GR_67 (ct_GR_isBelow V _ σ v1 10) rfl rfl ⟨Nat.le_of_ble_eq_true rfl, Nat.le_of_ble_eq_true rfl⟩ ⟨rfl, rfl⟩ (Nat.le_of_ble_eq_true rfl) rfl ?_
  refine J_if_eq (pc' := 9) (tgt := 17) d_GR_part_6 rfl (by decide) (fun hc1 => ?_) (fun hc1 => ?_)
  · have hf := brT hc1 hf
    refine J_bipush (pc' := 19) (v := (-2)) d_GR_part_17 rfl bc_m2 ?_
    obtain ⟨rfl, rfl⟩ := resE hf
    exact J_iret d_GR_part_19
  · have hf := brF hc1 hf
    refine J_iload_n (pc' := 10) d_GR_part_9 rfl 2 rfl ?_
    refine J_iconst (pc' := 11) (v := 3) d_GR_part_10 rfl ic_3 ?_
    refine J_S (pc' := 14) (as := [.int v2, .int 3]) (rest := []) (st' := [.int (f_GR_isBelow v2 3)]) d_GR_part_11 rfl ms_GR_67 (ct_GR_isBelow V _ σ v2 3) rfl rfl ⟨Nat.le_of_ble_eq_true rfl, Nat.le_of_ble_eq_true rfl⟩ ⟨rfl, rfl⟩ (Nat.le_of_ble_eq_true rfl) rfl ?_
    refine J_if_ne (pc' := 17) (tgt := 20) d_GR_part_14 rfl (by decide) (fun hc2 => ?_) (fun hc2 => ?_)
    · have hf := brF hc2 hf
      refine J_aload_n (pc' := 21) d_GR_part_20 rfl 0 rfl ?_
      refine J_getR (pc' := 24) d_GR_part_21 rfl sh_0 fl_GR_49 rfl ?_
      refine J_V (pc' := 27) (as := []) (rest := []) (st' := [.int (f_Mi_isFull σ)]) d_GR_part_24 rfl sh_43 rfl mv_GR_226 (ct_Mi_isFull V _ σ) rfl rfl ⟨Nat.le_of_ble_eq_true rfl, Nat.le_of_ble_eq_true rfl⟩ ⟨rfl, rfl⟩ (Nat.le_of_ble_eq_true rfl) rfl ?_
      refine J_if_eq (pc' := 30) (tgt := 33) d_GR_part_27 rfl (by decide) (fun hc3 => ?_) (fun hc3 => ?_)
      · have hf := brT hc3 hf
        refine J_aload_n (pc' := 34) d_GR_part_33 rfl 0 rfl ?_
        refine J_getR (pc' := 37) d_GR_part_34 rfl sh_0 fl_GR_49 rfl ?_
        refine J_iload_n (pc' := 38) d_GR_part_37 rfl 1 rfl ?_
        refine J_iload_n (pc' := 39) d_GR_part_38 rfl 2 rfl ?_
        obtain ⟨σ5, hq4, hf⟩ := bpE hf
        refine J_V (pc' := 42) (as := [.int v1, .int v2]) (rest := []) (st' := []) d_GR_part_39 rfl sh_43 rfl mv_GR_227 (ct_Mi_append V _ σ v1 v2 hq4) rfl rfl ⟨Nat.le_of_ble_eq_true rfl, Nat.le_of_ble_eq_true rfl⟩ ⟨rfl, rfl⟩ (Nat.le_of_ble_eq_true rfl) rfl ?_
        refine J_aload_n (pc' := 43) d_GR_part_42 rfl 0 rfl ?_
        refine J_getR (pc' := 46) d_GR_part_43 rfl sh_0 fl_GR_49 rfl ?_
        refine J_getI (pc' := 49) d_GR_part_46 rfl sh_43 fl_GR_230 rfl ?_
        refine J_iconst (pc' := 50) (v := 1) d_GR_part_49 rfl ic_1 ?_
        refine J_isub (pc' := 51) d_GR_part_50 rfl ?_
        obtain ⟨rfl, rfl⟩ := resE hf
        exact J_iret d_GR_part_51
      · have hf := brF hc3 hf
        refine J_bipush (pc' := 32) (v := (-4)) d_GR_part_30 rfl bc_m4 ?_
        obtain ⟨rfl, rfl⟩ := resE hf
        exact J_iret d_GR_part_32
    · have hf := brT hc2 hf
      refine J_bipush (pc' := 19) (v := (-2)) d_GR_part_17 rfl bc_m2 ?_
      obtain ⟨rfl, rfl⟩ := resE hf
      exact J_iret d_GR_part_19
theorem ct_GR_part (V : Vx) (l : Launch) (σ : Sg) (v1 : Int32) (v2 : Int32) {r : Int32} {σ' : Sg} (hf : f_GR_part σ v1 v2 = some (r, σ')) : Ct V l y_GR_part c_GR_part 3 (some .int) (k2_rm 2 43) [rf V 0, .int v1, .int v2] σ (some (.int r)) σ' := Ct.ofJ (by decide +kernel) (Nat.le_of_ble_eq_true rfl) fun X _ => j_GR_part _ v1 v2 hf
def f_Mi_drop (σ : Sg)  : Option (Int32 × Sg) :=
  some (σ.1 43 5, (pI σ 43 5 0))
set_option maxHeartbeats 4000000 in
theorem j_Mi_drop {V : Vx} {X : Xx} {r : Int32} {σ' : Sg} (σ : Sg) (hf : f_Mi_drop σ = some (r, σ')) : J V X (k2_rm 0 0) c_Mi_drop R_Mi 2 (some .int) (Qr V X (some (.int r)) σ') σ 0 [(0, rf V 43)] [] := by
  unfold f_Mi_drop at hf
  refine J_aload_n (pc' := 1) d_Mi_drop_0 rfl 0 rfl ?_
  refine J_getI (pc' := 4) d_Mi_drop_1 rfl sh_43 fl_Mi_31 rfl ?_
  refine J_istore_n (pc' := 5) (lv' := [(1, .int (σ.1 43 5)), (0, rf V 43)]) d_Mi_drop_4 rfl rfl (by decide) rfl ?_
  refine J_aload_n (pc' := 6) d_Mi_drop_5 rfl 1 rfl ?_
  refine J_iconst (pc' := 7) (v := 0) d_Mi_drop_6 rfl ic_0 ?_
  refine J_putI (pc' := 10) d_Mi_drop_7 rfl sh_43 fp_Mi_31 rfl ?_
  refine J_iload_n (pc' := 11) d_Mi_drop_10 rfl 0 rfl ?_
  obtain ⟨rfl, rfl⟩ := resE hf
  exact J_iret d_Mi_drop_11
theorem ct_Mi_drop (V : Vx) (l : Launch) (σ : Sg) {r : Int32} {σ' : Sg} (hf : f_Mi_drop σ = some (r, σ')) : Ct V l y_Mi_drop c_Mi_drop 2 (some .int) (k2_rm 0 0) [rf V 43] σ (some (.int r)) σ' := Ct.ofJ (by decide +kernel) (Nat.le_of_ble_eq_true rfl) fun X _ => j_Mi_drop _  hf
def f_GR_gone (σ : Sg)  : Option (Int32 × Sg) :=
  bd (f_Mi_drop σ) fun r3 σ2 =>
    some (r3, σ2)
set_option maxHeartbeats 4000000 in
theorem j_GR_gone {V : Vx} {X : Xx} {r : Int32} {σ' : Sg} (σ : Sg) (hf : f_GR_gone σ = some (r, σ')) : J V X (k2_rm 1 21) c_GR_gone R_GR 1 (some .int) (Qr V X (some (.int r)) σ') σ 0 [(0, rf V 0)] [] := by
  unfold f_GR_gone at hf
  refine J_aload_n (pc' := 1) d_GR_gone_0 rfl 0 rfl ?_
  refine J_getR (pc' := 4) d_GR_gone_1 rfl sh_0 fl_GR_49 rfl ?_
  obtain ⟨r3, σ2, hq1, hf⟩ := bdE hf
  refine J_V (pc' := 7) (as := []) (rest := []) (st' := [.int r3]) d_GR_gone_4 rfl sh_43 rfl mv_GR_231 (ct_Mi_drop V _ σ hq1) rfl rfl ⟨Nat.le_of_ble_eq_true rfl, Nat.le_of_ble_eq_true rfl⟩ ⟨rfl, rfl⟩ (Nat.le_of_ble_eq_true rfl) rfl ?_
  obtain ⟨rfl, rfl⟩ := resE hf
  exact J_iret d_GR_gone_7
theorem ct_GR_gone (V : Vx) (l : Launch) (σ : Sg) {r : Int32} {σ' : Sg} (hf : f_GR_gone σ = some (r, σ')) : Ct V l y_GR_gone c_GR_gone 1 (some .int) (k2_rm 1 21) [rf V 0] σ (some (.int r)) σ' := Ct.ofJ (by decide +kernel) (Nat.le_of_ble_eq_true rfl) fun X _ => j_GR_gone _  hf
def f_Mi_rowShift (v0 : Int32) : Int32 :=
  3 * (4 - v0)
set_option maxHeartbeats 4000000 in
theorem j_Mi_rowShift {V : Vx} {X : Xx} {r : Int32} (σ : Sg) (v0 : Int32) (hf : f_Mi_rowShift v0 = r) : J V X (k2_rm 0 0) c_Mi_rowShift R_Mi 1 (some .int) (Qr V X (some (.int r)) σ) σ 0 [(0, .int v0)] [] := by
  unfold f_Mi_rowShift at hf
  refine J_iconst (pc' := 1) (v := 3) d_Mi_rowShift_0 rfl ic_3 ?_
  refine J_iconst (pc' := 2) (v := 4) d_Mi_rowShift_1 rfl ic_4 ?_
  refine J_iload_n (pc' := 3) d_Mi_rowShift_2 rfl 0 rfl ?_
  refine J_isub (pc' := 4) d_Mi_rowShift_3 rfl ?_
  refine J_imul (pc' := 5) d_Mi_rowShift_4 rfl ?_
  subst hf
  exact J_iret d_Mi_rowShift_5
theorem ct_Mi_rowShift (V : Vx) (l : Launch) (σ : Sg) (v0 : Int32) : Ct V l y_Mi_rowShift c_Mi_rowShift 1 (some .int) (k2_rm 0 0) [.int v0] σ (some (.int (f_Mi_rowShift v0))) σ := Ct.ofJ (by decide +kernel) (Nat.le_of_ble_eq_true rfl) fun X _ => j_Mi_rowShift _ v0 rfl
def f_Mi_keyOf (σ : Sg) (v1 : Nat) (v2 : Int32) (v3 : Int32) : Int32 :=
  if (f_GR_isBelow v3 5) = 0 then
    268435456
  else
    if (σ.1 v1 2) = (σ.1 45 v3.toNatClampNeg) then
      if (σ.1 44 v3.toNatClampNeg) ≤ (σ.1 v1 3) then ((f_Ro_fare σ v1 0 (σ.1 44 v3.toNatClampNeg)) <<< (15 &&& 31)) + (v2 <<< ((f_Mi_rowShift v3) &&& 31)) else 268435456
    else
      268435456
set_option maxHeartbeats 4000000 in
theorem j_Mi_keyOf {V : Vx} {X : Xx} {r : Int32} (σ : Sg) (v1 : Nat) (v2 : Int32) (v3 : Int32) (iv1 : is_Ro v1) (hf : f_Mi_keyOf σ v1 v2 v3 = r) : J V X (k2_rm 1 22) c_Mi_keyOf R_Mi 4 (some .int) (Qr V X (some (.int r)) σ) σ 0 [(0, rf V 43), (1, rf V v1), (2, .int v2), (3, .int v3)] [] := by
  unfold f_Mi_keyOf at hf
  refine J_iload_n (pc' := 1) d_Mi_keyOf_0 rfl 3 rfl ?_
  refine J_iconst (pc' := 2) (v := 5) d_Mi_keyOf_1 rfl ic_5 ?_
  refine J_S (pc' := 5) (as := [.int v3, .int 5]) (rest := []) (st' := [.int (f_GR_isBelow v3 5)]) d_Mi_keyOf_2 rfl ms_Mi_35 (ct_GR_isBelow V _ σ v3 5) rfl rfl ⟨Nat.le_of_ble_eq_true rfl, Nat.le_of_ble_eq_true rfl⟩ ⟨rfl, rfl⟩ (Nat.le_of_ble_eq_true rfl) rfl ?_
  refine J_if_eq (pc' := 8) (tgt := 34) d_Mi_keyOf_5 rfl (by decide) (fun hc1 => ?_) (fun hc1 => ?_)
  · have hf := brT hc1 hf
    refine J_ldc (pc' := 36) (v := 268435456) d_Mi_keyOf_34 rfl cw_Mi_45 ?_
    subst hf
    exact J_iret d_Mi_keyOf_36
  · have hf := brF hc1 hf
    refine J_aload_n (pc' := 9) d_Mi_keyOf_8 rfl 1 rfl ?_
    refine J_getI (pc' := 12) d_Mi_keyOf_9 rfl (sh_Ro iv1) fl_Mi_74 rfl ?_
    refine J_aload_n (pc' := 13) d_Mi_keyOf_12 rfl 0 rfl ?_
    refine J_getR (pc' := 16) d_Mi_keyOf_13 rfl sh_43 fl_Mi_15 rfl ?_
    refine J_iload_n (pc' := 17) d_Mi_keyOf_16 rfl 3 rfl ?_
    refine J_ial (pc' := 18) d_Mi_keyOf_17 rfl sh_45 (vin_b hc1) ?_
    refine J_icmp_ne (pc' := 21) (tgt := 34) d_Mi_keyOf_18 rfl (by decide) (fun hc2 => ?_) (fun hc2 => ?_)
    · have hf := brF hc2 hf
      refine J_ldc (pc' := 36) (v := 268435456) d_Mi_keyOf_34 rfl cw_Mi_45 ?_
      subst hf
      exact J_iret d_Mi_keyOf_36
    · have hf := brT hc2 hf
      refine J_aload_n (pc' := 22) d_Mi_keyOf_21 rfl 1 rfl ?_
      refine J_getI (pc' := 25) d_Mi_keyOf_22 rfl (sh_Ro iv1) fl_Mi_76 rfl ?_
      refine J_aload_n (pc' := 26) d_Mi_keyOf_25 rfl 0 rfl ?_
      refine J_getR (pc' := 29) d_Mi_keyOf_26 rfl sh_43 fl_Mi_9 rfl ?_
      refine J_iload_n (pc' := 30) d_Mi_keyOf_29 rfl 3 rfl ?_
      refine J_ial (pc' := 31) d_Mi_keyOf_30 rfl sh_44 (vin_b hc1) ?_
      refine J_icmp_ge (pc' := 34) (tgt := 37) d_Mi_keyOf_31 rfl (by decide) (fun hc3 => ?_) (fun hc3 => ?_)
      · have hf := brT hc3 hf
        refine J_aload_n (pc' := 38) d_Mi_keyOf_37 rfl 1 rfl ?_
        refine J_iconst (pc' := 39) (v := 0) d_Mi_keyOf_38 rfl ic_0 ?_
        refine J_aload_n (pc' := 40) d_Mi_keyOf_39 rfl 0 rfl ?_
        refine J_getR (pc' := 43) d_Mi_keyOf_40 rfl sh_43 fl_Mi_9 rfl ?_
        refine J_iload_n (pc' := 44) d_Mi_keyOf_43 rfl 3 rfl ?_
        refine J_ial (pc' := 45) d_Mi_keyOf_44 rfl sh_44 (vin_b hc1) ?_
        refine J_V (pc' := 48) (as := [.int 0, .int (σ.1 44 v3.toNatClampNeg)]) (rest := []) (st' := [.int (f_Ro_fare σ v1 0 (σ.1 44 v3.toNatClampNeg))]) d_Mi_keyOf_45 rfl (sh_Ro iv1) rfl mv_Mi_79 (ct_Ro_fare V _ σ v1 0 (σ.1 44 v3.toNatClampNeg) iv1) rfl rfl ⟨Nat.le_of_ble_eq_true rfl, Nat.le_of_ble_eq_true rfl⟩ ⟨rfl, rfl⟩ (Nat.le_of_ble_eq_true rfl) rfl ?_
        refine J_bipush (pc' := 50) (v := 15) d_Mi_keyOf_48 rfl bc_15 ?_
        refine J_ishl (pc' := 51) d_Mi_keyOf_50 rfl ?_
        refine J_iload_n (pc' := 52) d_Mi_keyOf_51 rfl 2 rfl ?_
        refine J_iload_n (pc' := 53) d_Mi_keyOf_52 rfl 3 rfl ?_
        refine J_S (pc' := 56) (as := [.int v3]) (rest := [.int v2, .int ((f_Ro_fare σ v1 0 (σ.1 44 v3.toNatClampNeg)) <<< (15 &&& 31))]) (st' := [.int (f_Mi_rowShift v3), .int v2, .int ((f_Ro_fare σ v1 0 (σ.1 44 v3.toNatClampNeg)) <<< (15 &&& 31))]) d_Mi_keyOf_53 rfl ms_Mi_82 (ct_Mi_rowShift V _ σ v3) rfl rfl ⟨Nat.le_of_ble_eq_true rfl, Nat.le_of_ble_eq_true rfl⟩ ⟨rfl, rfl⟩ (Nat.le_of_ble_eq_true rfl) rfl ?_
        refine J_ishl (pc' := 57) d_Mi_keyOf_56 rfl ?_
        refine J_iadd (pc' := 58) d_Mi_keyOf_57 rfl ?_
        subst hf
        exact J_iret d_Mi_keyOf_58
      · have hf := brF hc3 hf
        refine J_ldc (pc' := 36) (v := 268435456) d_Mi_keyOf_34 rfl cw_Mi_45 ?_
        subst hf
        exact J_iret d_Mi_keyOf_36
theorem ct_Mi_keyOf (V : Vx) (l : Launch) (σ : Sg) (v1 : Nat) (v2 : Int32) (v3 : Int32) (iv1 : is_Ro v1) : Ct V l y_Mi_keyOf c_Mi_keyOf 4 (some .int) (k2_rm 1 22) [rf V 43, rf V v1, .int v2, .int v3] σ (some (.int (f_Mi_keyOf σ v1 v2 v3))) σ := Ct.ofJ (by decide +kernel) (Nat.le_of_ble_eq_true rfl) fun X _ => j_Mi_keyOf _ v1 v2 v3 iv1 rfl
