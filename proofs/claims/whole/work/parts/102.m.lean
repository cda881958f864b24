theorem d_GR_lowestTerm_0 : decode c_GR_lowestTerm 0 = .ok (.iload_n 1, 1) := by decide +kernel
theorem d_GR_lowestTerm_1 : decode c_GR_lowestTerm 1 = .ok (.istore_n 3, 1) := by decide +kernel
theorem d_GR_lowestTerm_2 : decode c_GR_lowestTerm 2 = .ok (.iload_n 3, 1) := by decide +kernel
theorem d_GR_lowestTerm_3 : decode c_GR_lowestTerm 3 = .ok (.iconst 1, 1) := by decide +kernel
theorem d_GR_lowestTerm_4 : decode c_GR_lowestTerm 4 = .ok (.if_icmp .lt 33, 3) := by decide +kernel
theorem d_GR_lowestTerm_7 : decode c_GR_lowestTerm 7 = .ok (.iload_n 0, 1) := by decide +kernel
theorem d_GR_lowestTerm_8 : decode c_GR_lowestTerm 8 = .ok (.iload_n 3, 1) := by decide +kernel
theorem d_GR_lowestTerm_9 : decode c_GR_lowestTerm 9 = .ok (.irem, 1) := by decide +kernel
theorem d_GR_lowestTerm_10 : decode c_GR_lowestTerm 10 = .ok (.ifCond .ne 21, 3) := by decide +kernel
theorem d_GR_lowestTerm_13 : decode c_GR_lowestTerm 13 = .ok (.iload_n 1, 1) := by decide +kernel
theorem d_GR_lowestTerm_14 : decode c_GR_lowestTerm 14 = .ok (.iload_n 3, 1) := by decide +kernel
theorem d_GR_lowestTerm_15 : decode c_GR_lowestTerm 15 = .ok (.irem, 1) := by decide +kernel
theorem d_GR_lowestTerm_16 : decode c_GR_lowestTerm 16 = .ok (.ifCond .ne 15, 3) := by decide +kernel
theorem d_GR_lowestTerm_19 : decode c_GR_lowestTerm 19 = .ok (.iload_n 2, 1) := by decide +kernel
theorem d_GR_lowestTerm_20 : decode c_GR_lowestTerm 20 = .ok (.ifCond .ne 7, 3) := by decide +kernel
theorem d_GR_lowestTerm_23 : decode c_GR_lowestTerm 23 = .ok (.iload_n 0, 1) := by decide +kernel
theorem d_GR_lowestTerm_24 : decode c_GR_lowestTerm 24 = .ok (.goto 4, 3) := by decide +kernel
theorem d_GR_lowestTerm_27 : decode c_GR_lowestTerm 27 = .ok (.iload_n 1, 1) := by decide +kernel
theorem d_GR_lowestTerm_28 : decode c_GR_lowestTerm 28 = .ok (.iload_n 3, 1) := by decide +kernel
theorem d_GR_lowestTerm_29 : decode c_GR_lowestTerm 29 = .ok (.idiv, 1) := by decide +kernel
theorem d_GR_lowestTerm_30 : decode c_GR_lowestTerm 30 = .ok (.ireturn, 1) := by decide +kernel
theorem d_GR_lowestTerm_31 : decode c_GR_lowestTerm 31 = .ok (.iinc 3 (-1), 3) := by decide +kernel
theorem d_GR_lowestTerm_34 : decode c_GR_lowestTerm 34 = .ok (.goto (-32), 3) := by decide +kernel
theorem d_GR_lowestTerm_37 : decode c_GR_lowestTerm 37 = .ok (.iconst 0, 1) := by decide +kernel
theorem d_GR_lowestTerm_38 : decode c_GR_lowestTerm 38 = .ok (.ireturn, 1) := by decide +kernel
theorem d_GR_crossingAsTold_0 : decode c_GR_crossingAsTold 0 = .ok (.aload_n 0, 1) := by decide +kernel
theorem d_GR_crossingAsTold_1 : decode c_GR_crossingAsTold 1 = .ok (.getfield 24, 3) := by decide +kernel
theorem d_GR_crossingAsTold_4 : decode c_GR_crossingAsTold 4 = .ok (.iload_n 1, 1) := by decide +kernel
theorem d_GR_crossingAsTold_5 : decode c_GR_crossingAsTold 5 = .ok (.invokevirtual 104, 3) := by decide +kernel
theorem d_GR_crossingAsTold_8 : decode c_GR_crossingAsTold 8 = .ok (.astore 5, 2) := by decide +kernel
theorem d_GR_crossingAsTold_10 : decode c_GR_crossingAsTold 10 = .ok (.aload_n 0, 1) := by decide +kernel
theorem d_GR_crossingAsTold_11 : decode c_GR_crossingAsTold 11 = .ok (.getfield 24, 3) := by decide +kernel
theorem d_GR_crossingAsTold_14 : decode c_GR_crossingAsTold 14 = .ok (.iload_n 2, 1) := by decide +kernel
theorem d_GR_crossingAsTold_15 : decode c_GR_crossingAsTold 15 = .ok (.invokevirtual 104, 3) := by decide +kernel
theorem d_GR_crossingAsTold_18 : decode c_GR_crossingAsTold 18 = .ok (.astore 6, 2) := by decide +kernel
theorem d_GR_crossingAsTold_20 : decode c_GR_crossingAsTold 20 = .ok (.aload 5, 2) := by decide +kernel
theorem d_GR_crossingAsTold_22 : decode c_GR_crossingAsTold 22 = .ok (.aload 6, 2) := by decide +kernel
theorem d_GR_crossingAsTold_24 : decode c_GR_crossingAsTold 24 = .ok (.invokevirtual 121, 3) := by decide +kernel
theorem d_GR_crossingAsTold_27 : decode c_GR_crossingAsTold 27 = .ok (.ifCond .ne 9, 3) := by decide +kernel
theorem d_GR_crossingAsTold_30 : decode c_GR_crossingAsTold 30 = .ok (.bipush (-3), 2) := by decide +kernel
theorem d_GR_crossingAsTold_32 : decode c_GR_crossingAsTold 32 = .ok (.invokestatic 125, 3) := by decide +kernel
theorem d_GR_crossingAsTold_35 : decode c_GR_crossingAsTold 35 = .ok (.lreturn, 1) := by decide +kernel
theorem d_GR_crossingAsTold_36 : decode c_GR_crossingAsTold 36 = .ok (.aload 5, 2) := by decide +kernel
theorem d_GR_crossingAsTold_38 : decode c_GR_crossingAsTold 38 = .ok (.aload 6, 2) := by decide +kernel
theorem d_GR_crossingAsTold_40 : decode c_GR_crossingAsTold 40 = .ok (.invokevirtual 342, 3) := by decide +kernel
theorem d_GR_crossingAsTold_43 : decode c_GR_crossingAsTold 43 = .ok (.istore 7, 2) := by decide +kernel
theorem d_GR_crossingAsTold_45 : decode c_GR_crossingAsTold 45 = .ok (.aload 5, 2) := by decide +kernel
theorem d_GR_crossingAsTold_47 : decode c_GR_crossingAsTold 47 = .ok (.aload 6, 2) := by decide +kernel
theorem d_GR_crossingAsTold_49 : decode c_GR_crossingAsTold 49 = .ok (.iconst 0, 1) := by decide +kernel
theorem d_GR_crossingAsTold_50 : decode c_GR_crossingAsTold 50 = .ok (.invokevirtual 345, 3) := by decide +kernel
theorem d_GR_crossingAsTold_53 : decode c_GR_crossingAsTold 53 = .ok (.istore 8, 2) := by decide +kernel
theorem d_GR_crossingAsTold_55 : decode c_GR_crossingAsTold 55 = .ok (.iload_n 3, 1) := by decide +kernel
theorem d_GR_crossingAsTold_56 : decode c_GR_crossingAsTold 56 = .ok (.iconst 1, 1) := by decide +kernel
theorem d_GR_crossingAsTold_57 : decode c_GR_crossingAsTold 57 = .ok (.if_icmp .ne 28, 3) := by decide +kernel
theorem d_GR_crossingAsTold_60 : decode c_GR_crossingAsTold 60 = .ok (.aload 5, 2) := by decide +kernel
theorem d_GR_crossingAsTold_62 : decode c_GR_crossingAsTold 62 = .ok (.getfield 349, 3) := by decide +kernel
theorem d_GR_crossingAsTold_65 : decode c_GR_crossingAsTold 65 = .ok (.iload 7, 2) := by decide +kernel
theorem d_GR_crossingAsTold_67 : decode c_GR_crossingAsTold 67 = .ok (.imul, 1) := by decide +kernel
theorem d_GR_crossingAsTold_68 : decode c_GR_crossingAsTold 68 = .ok (.aload 5, 2) := by decide +kernel
theorem d_GR_crossingAsTold_70 : decode c_GR_crossingAsTold 70 = .ok (.getfield 352, 3) := by decide +kernel
theorem d_GR_crossingAsTold_73 : decode c_GR_crossingAsTold 73 = .ok (.aload 5, 2) := by decide +kernel
theorem d_GR_crossingAsTold_75 : decode c_GR_crossingAsTold 75 = .ok (.getfield 349, 3) := by decide +kernel
theorem d_GR_crossingAsTold_78 : decode c_GR_crossingAsTold 78 = .ok (.isub, 1) := by decide +kernel
theorem d_GR_crossingAsTold_79 : decode c_GR_crossingAsTold 79 = .ok (.iload 8, 2) := by decide +kernel
theorem d_GR_crossingAsTold_81 : decode c_GR_crossingAsTold 81 = .ok (.imul, 1) := by decide +kernel
theorem d_GR_crossingAsTold_82 : decode c_GR_crossingAsTold 82 = .ok (.iadd, 1) := by decide +kernel
theorem d_GR_crossingAsTold_83 : decode c_GR_crossingAsTold 83 = .ok (.istore 8, 2) := by decide +kernel
theorem d_GR_crossingAsTold_85 : decode c_GR_crossingAsTold 85 = .ok (.iload 8, 2) := by decide +kernel
theorem d_GR_crossingAsTold_87 : decode c_GR_crossingAsTold 87 = .ok (.iload 7, 2) := by decide +kernel
theorem d_GR_crossingAsTold_89 : decode c_GR_crossingAsTold 89 = .ok (.iload 4, 2) := by decide +kernel
theorem d_GR_crossingAsTold_91 : decode c_GR_crossingAsTold 91 = .ok (.invokestatic 355, 3) := by decide +kernel
theorem d_GR_crossingAsTold_94 : decode c_GR_crossingAsTold 94 = .ok (.i2l, 1) := by decide +kernel
theorem d_GR_crossingAsTold_95 : decode c_GR_crossingAsTold 95 = .ok (.lreturn, 1) := by decide +kernel
theorem d_GR_crossing_0 : decode c_GR_crossing 0 = .ok (.aload_n 0, 1) := by decide +kernel
theorem d_GR_crossing_1 : decode c_GR_crossing 1 = .ok (.getfield 24, 3) := by decide +kernel
theorem d_GR_crossing_4 : decode c_GR_crossing 4 = .ok (.iload_n 1, 1) := by decide +kernel
theorem d_GR_crossing_5 : decode c_GR_crossing 5 = .ok (.iload_n 2, 1) := by decide +kernel
theorem d_GR_crossing_6 : decode c_GR_crossing 6 = .ok (.invokevirtual 114, 3) := by decide +kernel
theorem d_GR_crossing_9 : decode c_GR_crossing 9 = .ok (.ifCond .eq 20, 3) := by decide +kernel
theorem d_GR_crossing_12 : decode c_GR_crossing 12 = .ok (.iload_n 3, 1) := by decide +kernel
theorem d_GR_crossing_13 : decode c_GR_crossing 13 = .ok (.iconst 2, 1) := by decide +kernel
theorem d_GR_crossing_14 : decode c_GR_crossing 14 = .ok (.invokestatic 67, 3) := by decide +kernel
theorem d_GR_crossing_17 : decode c_GR_crossing 17 = .ok (.ifCond .eq 12, 3) := by decide +kernel
theorem d_GR_crossing_20 : decode c_GR_crossing 20 = .ok (.iload 4, 2) := by decide +kernel
theorem d_GR_crossing_22 : decode c_GR_crossing 22 = .ok (.iconst 2, 1) := by decide +kernel
theorem d_GR_crossing_23 : decode c_GR_crossing 23 = .ok (.invokestatic 67, 3) := by decide +kernel
theorem d_GR_crossing_26 : decode c_GR_crossing 26 = .ok (.ifCond .ne 9, 3) := by decide +kernel
theorem d_GR_crossing_29 : decode c_GR_crossing 29 = .ok (.bipush (-2), 2) := by decide +kernel
theorem d_GR_crossing_31 : decode c_GR_crossing 31 = .ok (.invokestatic 125, 3) := by decide +kernel
theorem d_GR_crossing_34 : decode c_GR_crossing 34 = .ok (.lreturn, 1) := by decide +kernel
theorem d_GR_crossing_35 : decode c_GR_crossing 35 = .ok (.aload_n 0, 1) := by decide +kernel
theorem d_GR_crossing_36 : decode c_GR_crossing 36 = .ok (.iload_n 1, 1) := by decide +kernel
theorem d_GR_crossing_37 : decode c_GR_crossing 37 = .ok (.iload_n 2, 1) := by decide +kernel
theorem d_GR_crossing_38 : decode c_GR_crossing 38 = .ok (.iload_n 3, 1) := by decide +kernel
theorem d_GR_crossing_39 : decode c_GR_crossing 39 = .ok (.iload 4, 2) := by decide +kernel
theorem d_GR_crossing_41 : decode c_GR_crossing 41 = .ok (.invokevirtual 129, 3) := by decide +kernel
theorem d_GR_crossing_44 : decode c_GR_crossing 44 = .ok (.lreturn, 1) := by decide +kernel
theorem d_Ro_fare_0 : decode c_Ro_fare 0 = .ok (.aload_n 0, 1) := by decide +kernel
theorem d_Ro_fare_1 : decode c_Ro_fare 1 = .ok (.getfield 22, 3) := by decide +kernel
theorem d_Ro_fare_4 : decode c_Ro_fare 4 = .ok (.iload_n 2, 1) := by decide +kernel
theorem d_Ro_fare_5 : decode c_Ro_fare 5 = .ok (.iconst 1, 1) := by decide +kernel
theorem d_Ro_fare_6 : decode c_Ro_fare 6 = .ok (.iadd, 1) := by decide +kernel
theorem d_Ro_fare_7 : decode c_Ro_fare 7 = .ok (.imul, 1) := by decide +kernel
theorem d_Ro_fare_8 : decode c_Ro_fare 8 = .ok (.iload_n 1, 1) := by decide +kernel
theorem d_Ro_fare_9 : decode c_Ro_fare 9 = .ok (.ifCond .ne 10, 3) := by decide +kernel
theorem d_Ro_fare_12 : decode c_Ro_fare 12 = .ok (.aload_n 0, 1) := by decide +kernel
theorem d_Ro_fare_13 : decode c_Ro_fare 13 = .ok (.getfield 41, 3) := by decide +kernel
theorem d_Ro_fare_16 : decode c_Ro_fare 16 = .ok (.goto 7, 3) := by decide +kernel
theorem d_Ro_fare_19 : decode c_Ro_fare 19 = .ok (.aload_n 0, 1) := by decide +kernel
theorem d_Ro_fare_20 : decode c_Ro_fare 20 = .ok (.getfield 44, 3) := by decide +kernel
theorem d_Ro_fare_23 : decode c_Ro_fare 23 = .ok (.iadd, 1) := by decide +kernel
theorem d_Ro_fare_24 : decode c_Ro_fare 24 = .ok (.ireturn, 1) := by decide +kernel
theorem d_Ro_minutes_0 : decode c_Ro_minutes 0 = .ok (.bipush 12, 2) := by decide +kernel
theorem d_Ro_minutes_2 : decode c_Ro_minutes 2 = .ok (.iconst 2, 1) := by decide +kernel
theorem d_Ro_minutes_3 : decode c_Ro_minutes 3 = .ok (.iload_n 1, 1) := by decide +kernel
theorem d_Ro_minutes_4 : decode c_Ro_minutes 4 = .ok (.ifCond .ne 10, 3) := by decide +kernel
theorem d_Ro_minutes_7 : decode c_Ro_minutes 7 = .ok (.aload_n 0, 1) := by decide +kernel
theorem d_Ro_minutes_8 : decode c_Ro_minutes 8 = .ok (.getfield 41, 3) := by decide +kernel
theorem d_Ro_minutes_11 : decode c_Ro_minutes 11 = .ok (.goto 7, 3) := by decide +kernel
theorem d_Ro_minutes_14 : decode c_Ro_minutes 14 = .ok (.aload_n 0, 1) := by decide +kernel
theorem d_Ro_minutes_15 : decode c_Ro_minutes 15 = .ok (.getfield 44, 3) := by decide +kernel
theorem d_Ro_minutes_18 : decode c_Ro_minutes 18 = .ok (.imul, 1) := by decide +kernel
theorem d_Ro_minutes_19 : decode c_Ro_minutes 19 = .ok (.iadd, 1) := by decide +kernel
theorem d_Ro_minutes_20 : decode c_Ro_minutes 20 = .ok (.ireturn, 1) := by decide +kernel
theorem d_GR_takes_0 : decode c_GR_takes 0 = .ok (.aload_n 0, 1) := by decide +kernel
theorem d_GR_takes_1 : decode c_GR_takes 1 = .ok (.getfield 24, 3) := by decide +kernel
theorem d_GR_takes_4 : decode c_GR_takes 4 = .ok (.iload_n 1, 1) := by decide +kernel
theorem d_GR_takes_5 : decode c_GR_takes 5 = .ok (.invokevirtual 100, 3) := by decide +kernel
theorem d_GR_takes_8 : decode c_GR_takes 8 = .ok (.ifCond .eq 29, 3) := by decide +kernel
theorem d_GR_takes_11 : decode c_GR_takes 11 = .ok (.iload_n 2, 1) := by decide +kernel
theorem d_GR_takes_12 : decode c_GR_takes 12 = .ok (.iconst 2, 1) := by decide +kernel
theorem d_GR_takes_13 : decode c_GR_takes 13 = .ok (.invokestatic 67, 3) := by decide +kernel
theorem d_GR_takes_16 : decode c_GR_takes 16 = .ok (.ifCond .eq 21, 3) := by decide +kernel
theorem d_GR_takes_19 : decode c_GR_takes 19 = .ok (.iload_n 3, 1) := by decide +kernel
theorem d_GR_takes_20 : decode c_GR_takes 20 = .ok (.bipush 10, 2) := by decide +kernel
theorem d_GR_takes_22 : decode c_GR_takes 22 = .ok (.invokestatic 67, 3) := by decide +kernel
theorem d_GR_takes_25 : decode c_GR_takes 25 = .ok (.ifCond .eq 12, 3) := by decide +kernel
theorem d_GR_takes_28 : decode c_GR_takes 28 = .ok (.iload 4, 2) := by decide +kernel
theorem d_GR_takes_30 : decode c_GR_takes 30 = .ok (.iconst 2, 1) := by decide +kernel
theorem d_GR_takes_31 : decode c_GR_takes 31 = .ok (.invokestatic 67, 3) := by decide +kernel
theorem d_GR_takes_34 : decode c_GR_takes 34 = .ok (.ifCond .ne 6, 3) := by decide +kernel
theorem d_GR_takes_37 : decode c_GR_takes 37 = .ok (.bipush (-2), 2) := by decide +kernel
theorem d_GR_takes_39 : decode c_GR_takes 39 = .ok (.ireturn, 1) := by decide +kernel
theorem d_GR_takes_40 : decode c_GR_takes 40 = .ok (.aload_n 0, 1) := by decide +kernel
theorem d_GR_takes_41 : decode c_GR_takes 41 = .ok (.getfield 24, 3) := by decide +kernel
theorem d_GR_takes_44 : decode c_GR_takes 44 = .ok (.iload_n 1, 1) := by decide +kernel
theorem d_GR_takes_45 : decode c_GR_takes 45 = .ok (.invokevirtual 104, 3) := by decide +kernel
theorem d_GR_takes_48 : decode c_GR_takes 48 = .ok (.astore 5, 2) := by decide +kernel
theorem d_GR_takes_50 : decode c_GR_takes 50 = .ok (.iload 4, 2) := by decide +kernel
theorem d_GR_takes_52 : decode c_GR_takes 52 = .ok (.ifCond .ne 12, 3) := by decide +kernel
theorem d_GR_takes_55 : decode c_GR_takes 55 = .ok (.aload 5, 2) := by decide +kernel
theorem d_GR_takes_57 : decode c_GR_takes 57 = .ok (.iload_n 2, 1) := by decide +kernel
theorem d_GR_takes_58 : decode c_GR_takes 58 = .ok (.invokevirtual 133, 3) := by decide +kernel
theorem d_GR_takes_61 : decode c_GR_takes 61 = .ok (.goto 10, 3) := by decide +kernel
theorem d_GR_takes_64 : decode c_GR_takes 64 = .ok (.aload 5, 2) := by decide +kernel
theorem d_GR_takes_66 : decode c_GR_takes 66 = .ok (.iload_n 2, 1) := by decide +kernel
theorem d_GR_takes_67 : decode c_GR_takes 67 = .ok (.iload_n 3, 1) := by decide +kernel
theorem d_GR_takes_68 : decode c_GR_takes 68 = .ok (.invokevirtual 136, 3) := by decide +kernel
theorem d_GR_takes_71 : decode c_GR_takes 71 = .ok (.ireturn, 1) := by decide +kernel
theorem d_GR_set_0 : decode c_GR_set 0 = .ok (.iload_n 1, 1) := by decide +kernel
theorem d_GR_set_1 : decode c_GR_set 1 = .ok (.iconst 3, 1) := by decide +kernel
theorem d_GR_set_2 : decode c_GR_set 2 = .ok (.invokestatic 67, 3) := by decide +kernel
theorem d_GR_set_5 : decode c_GR_set 5 = .ok (.ifCond .eq 21, 3) := by decide +kernel
theorem d_GR_set_8 : decode c_GR_set 8 = .ok (.iload_n 2, 1) := by decide +kernel
theorem d_GR_set_9 : decode c_GR_set 9 = .ok (.getstatic 140, 3) := by decide +kernel
theorem d_GR_set_12 : decode c_GR_set 12 = .ok (.iload_n 1, 1) := by decide +kernel
theorem d_GR_set_13 : decode c_GR_set 13 = .ok (.iaload, 1) := by decide +kernel
theorem d_GR_set_14 : decode c_GR_set 14 = .ok (.if_icmp .lt 12, 3) := by decide +kernel
theorem d_GR_set_17 : decode c_GR_set 17 = .ok (.iload_n 2, 1) := by decide +kernel
theorem d_GR_set_18 : decode c_GR_set 18 = .ok (.getstatic 143, 3) := by decide +kernel
theorem d_GR_set_21 : decode c_GR_set 21 = .ok (.iload_n 1, 1) := by decide +kernel
theorem d_GR_set_22 : decode c_GR_set 22 = .ok (.iaload, 1) := by decide +kernel
theorem d_GR_set_23 : decode c_GR_set 23 = .ok (.if_icmp .le 6, 3) := by decide +kernel
theorem d_GR_set_26 : decode c_GR_set 26 = .ok (.bipush (-2), 2) := by decide +kernel
theorem d_GR_set_28 : decode c_GR_set 28 = .ok (.ireturn, 1) := by decide +kernel
theorem d_GR_set_29 : decode c_GR_set 29 = .ok (.aload_n 0, 1) := by decide +kernel
theorem d_GR_set_30 : decode c_GR_set 30 = .ok (.getfield 28, 3) := by decide +kernel
theorem d_GR_set_33 : decode c_GR_set 33 = .ok (.iload_n 1, 1) := by decide +kernel
theorem d_GR_set_34 : decode c_GR_set 34 = .ok (.iaload, 1) := by decide +kernel
theorem d_GR_set_35 : decode c_GR_set 35 = .ok (.istore_n 3, 1) := by decide +kernel
theorem d_GR_set_36 : decode c_GR_set 36 = .ok (.aload_n 0, 1) := by decide +kernel
theorem d_GR_set_37 : decode c_GR_set 37 = .ok (.getfield 28, 3) := by decide +kernel
theorem d_GR_set_40 : decode c_GR_set 40 = .ok (.iload_n 1, 1) := by decide +kernel
theorem d_GR_set_41 : decode c_GR_set 41 = .ok (.iload_n 2, 1) := by decide +kernel
theorem d_GR_set_42 : decode c_GR_set 42 = .ok (.iastore, 1) := by decide +kernel
theorem d_GR_set_43 : decode c_GR_set 43 = .ok (.iload_n 3, 1) := by decide +kernel
theorem d_GR_set_44 : decode c_GR_set 44 = .ok (.ireturn, 1) := by decide +kernel
theorem d_GR_mayGo_0 : decode c_GR_mayGo 0 = .ok (.iload_n 0, 1) := by decide +kernel
theorem d_GR_mayGo_1 : decode c_GR_mayGo 1 = .ok (.bipush 8, 2) := by decide +kernel
theorem d_GR_mayGo_3 : decode c_GR_mayGo 3 = .ok (.invokestatic 67, 3) := by decide +kernel
theorem d_GR_mayGo_6 : decode c_GR_mayGo 6 = .ok (.ifCond .eq 34, 3) := by decide +kernel
theorem d_GR_mayGo_9 : decode c_GR_mayGo 9 = .ok (.iload_n 1, 1) := by decide +kernel
theorem d_GR_mayGo_10 : decode c_GR_mayGo 10 = .ok (.iconst 2, 1) := by decide +kernel
theorem d_GR_mayGo_11 : decode c_GR_mayGo 11 = .ok (.invokestatic 67, 3) := by decide +kernel
theorem d_GR_mayGo_14 : decode c_GR_mayGo 14 = .ok (.ifCond .eq 26, 3) := by decide +kernel
theorem d_GR_mayGo_17 : decode c_GR_mayGo 17 = .ok (.iload_n 2, 1) := by decide +kernel
theorem d_GR_mayGo_18 : decode c_GR_mayGo 18 = .ok (.sipush 200, 3) := by decide +kernel
theorem d_GR_mayGo_21 : decode c_GR_mayGo 21 = .ok (.invokestatic 67, 3) := by decide +kernel
theorem d_GR_mayGo_24 : decode c_GR_mayGo 24 = .ok (.ifCond .eq 16, 3) := by decide +kernel
theorem d_GR_mayGo_27 : decode c_GR_mayGo 27 = .ok (.iload_n 3, 1) := by decide +kernel
theorem d_GR_mayGo_28 : decode c_GR_mayGo 28 = .ok (.bipush 10, 2) := by decide +kernel
theorem d_GR_mayGo_30 : decode c_GR_mayGo 30 = .ok (.invokestatic 67, 3) := by decide +kernel
theorem d_GR_mayGo_33 : decode c_GR_mayGo 33 = .ok (.ifCond .eq 7, 3) := by decide +kernel
theorem d_GR_mayGo_36 : decode c_GR_mayGo 36 = .ok (.iconst 1, 1) := by decide +kernel
theorem d_GR_mayGo_37 : decode c_GR_mayGo 37 = .ok (.goto 4, 3) := by decide +kernel
theorem d_GR_mayGo_40 : decode c_GR_mayGo 40 = .ok (.iconst 0, 1) := by decide +kernel
theorem d_GR_mayGo_41 : decode c_GR_mayGo 41 = .ok (.ireturn, 1) := by decide +kernel
theorem d_Ts_isFull_0 : decode c_Ts_isFull 0 = .ok (.aload_n 0, 1) := by decide +kernel
theorem d_Ts_isFull_1 : decode c_Ts_isFull 1 = .ok (.getfield 22, 3) := by decide +kernel
theorem d_Ts_isFull_4 : decode c_Ts_isFull 4 = .ok (.bipush 20, 2) := by decide +kernel
theorem d_Ts_isFull_6 : decode c_Ts_isFull 6 = .ok (.if_icmp .lt 7, 3) := by decide +kernel
theorem d_Ts_isFull_9 : decode c_Ts_isFull 9 = .ok (.iconst 1, 1) := by decide +kernel
theorem d_Ts_isFull_10 : decode c_Ts_isFull 10 = .ok (.goto 4, 3) := by decide +kernel
theorem d_Ts_isFull_13 : decode c_Ts_isFull 13 = .ok (.iconst 0, 1) := by decide +kernel
theorem d_Ts_isFull_14 : decode c_Ts_isFull 14 = .ok (.ireturn, 1) := by decide +kernel
theorem d_Ts_at_0 : decode c_Ts_at 0 = .ok (.iload_n 1, 1) := by decide +kernel
theorem d_Ts_at_1 : decode c_Ts_at 1 = .ok (.bipush 20, 2) := by decide +kernel
theorem d_Ts_at_3 : decode c_Ts_at 3 = .ok (.invokestatic 26, 3) := by decide +kernel
theorem d_Ts_at_6 : decode c_Ts_at 6 = .ok (.ifCond .eq 12, 3) := by decide +kernel
theorem d_Ts_at_9 : decode c_Ts_at 9 = .ok (.aload_n 0, 1) := by decide +kernel
theorem d_Ts_at_10 : decode c_Ts_at 10 = .ok (.getfield 11, 3) := by decide +kernel
theorem d_Ts_at_13 : decode c_Ts_at 13 = .ok (.iload_n 1, 1) := by decide +kernel
theorem d_Ts_at_14 : decode c_Ts_at 14 = .ok (.aaload, 1) := by decide +kernel
theorem d_Ts_at_15 : decode c_Ts_at 15 = .ok (.goto 4, 3) := by decide +kernel
theorem d_Ts_at_18 : decode c_Ts_at 18 = .ok (.aconst_null, 1) := by decide +kernel
theorem d_Ts_at_19 : decode c_Ts_at 19 = .ok (.astore_n 2, 1) := by decide +kernel
theorem d_Ts_at_20 : decode c_Ts_at 20 = .ok (.aload_n 2, 1) := by decide +kernel
theorem d_Ts_at_21 : decode c_Ts_at 21 = .ok (.ifnonnull 10, 3) := by decide +kernel
theorem d_Ts_at_24 : decode c_Ts_at 24 = .ok (.aload_n 0, 1) := by decide +kernel
theorem d_Ts_at_25 : decode c_Ts_at 25 = .ok (.getfield 18, 3) := by decide +kernel
theorem d_Ts_at_28 : decode c_Ts_at 28 = .ok (.goto 4, 3) := by decide +kernel
theorem d_Ts_at_31 : decode c_Ts_at 31 = .ok (.aload_n 2, 1) := by decide +kernel
theorem d_Ts_at_32 : decode c_Ts_at 32 = .ok (.areturn, 1) := by decide +kernel
theorem d_Ts_append_0 : decode c_Ts_append 0 = .ok (.aload_n 0, 1) := by decide +kernel
theorem d_Ts_append_1 : decode c_Ts_append 1 = .ok (.invokevirtual 30, 3) := by decide +kernel
theorem d_Ts_append_4 : decode c_Ts_append 4 = .ok (.ifCond .eq 4, 3) := by decide +kernel
theorem d_Ts_append_7 : decode c_Ts_append 7 = .ok (.return_, 1) := by decide +kernel
theorem d_Ts_append_8 : decode c_Ts_append 8 = .ok (.aload_n 0, 1) := by decide +kernel
theorem d_Ts_append_9 : decode c_Ts_append 9 = .ok (.aload_n 0, 1) := by decide +kernel
theorem d_Ts_append_10 : decode c_Ts_append 10 = .ok (.getfield 22, 3) := by decide +kernel
theorem d_Ts_append_13 : decode c_Ts_append 13 = .ok (.invokevirtual 34, 3) := by decide +kernel
theorem d_Ts_append_16 : decode c_Ts_append 16 = .ok (.astore 6, 2) := by decide +kernel
theorem d_Ts_append_18 : decode c_Ts_append 18 = .ok (.aload 6, 2) := by decide +kernel
theorem d_Ts_append_20 : decode c_Ts_append 20 = .ok (.iload_n 1, 1) := by decide +kernel
theorem d_Ts_append_21 : decode c_Ts_append 21 = .ok (.putfield 38, 3) := by decide +kernel
theorem d_Ts_append_24 : decode c_Ts_append 24 = .ok (.aload 6, 2) := by decide +kernel
theorem d_Ts_append_26 : decode c_Ts_append 26 = .ok (.iload_n 2, 1) := by decide +kernel
theorem d_Ts_append_27 : decode c_Ts_append 27 = .ok (.putfield 41, 3) := by decide +kernel
theorem d_Ts_append_30 : decode c_Ts_append 30 = .ok (.aload 6, 2) := by decide +kernel
theorem d_Ts_append_32 : decode c_Ts_append 32 = .ok (.iload_n 3, 1) := by decide +kernel
theorem d_Ts_append_33 : decode c_Ts_append 33 = .ok (.putfield 44, 3) := by decide +kernel
theorem d_Ts_append_36 : decode c_Ts_append 36 = .ok (.aload 6, 2) := by decide +kernel
theorem d_Ts_append_38 : decode c_Ts_append 38 = .ok (.iload 4, 2) := by decide +kernel
theorem d_Ts_append_40 : decode c_Ts_append 40 = .ok (.putfield 47, 3) := by decide +kernel
theorem d_Ts_append_43 : decode c_Ts_append 43 = .ok (.aload 6, 2) := by decide +kernel
theorem d_Ts_append_45 : decode c_Ts_append 45 = .ok (.iload 5, 2) := by decide +kernel
theorem d_Ts_append_47 : decode c_Ts_append 47 = .ok (.putfield 50, 3) := by decide +kernel
theorem d_Ts_append_50 : decode c_Ts_append 50 = .ok (.aload_n 0, 1) := by decide +kernel
theorem d_Ts_append_51 : decode c_Ts_append 51 = .ok (.dup, 1) := by decide +kernel
theorem d_Ts_append_52 : decode c_Ts_append 52 = .ok (.getfield 22, 3) := by decide +kernel
theorem d_Ts_append_55 : decode c_Ts_append 55 = .ok (.iconst 1, 1) := by decide +kernel
theorem d_Ts_append_56 : decode c_Ts_append 56 = .ok (.iadd, 1) := by decide +kernel
theorem d_Ts_append_57 : decode c_Ts_append 57 = .ok (.putfield 22, 3) := by decide +kernel
theorem d_Ts_append_60 : decode c_Ts_append 60 = .ok (.return_, 1) := by decide +kernel
theorem d_GR_trip_0 : decode c_GR_trip 0 = .ok (.iload_n 1, 1) := by decide +kernel
theorem d_GR_trip_1 : decode c_GR_trip 1 = .ok (.iload_n 2, 1) := by decide +kernel
theorem d_GR_trip_2 : decode c_GR_trip 2 = .ok (.iload_n 3, 1) := by decide +kernel
theorem d_GR_trip_3 : decode c_GR_trip 3 = .ok (.iload 4, 2) := by decide +kernel
theorem d_GR_trip_5 : decode c_GR_trip 5 = .ok (.invokestatic 146, 3) := by decide +kernel
theorem d_GR_trip_8 : decode c_GR_trip 8 = .ok (.ifCond .eq 12, 3) := by decide +kernel
theorem d_GR_trip_11 : decode c_GR_trip 11 = .ok (.iload 5, 2) := by decide +kernel
theorem d_GR_trip_13 : decode c_GR_trip 13 = .ok (.iconst 5, 1) := by decide +kernel
theorem d_GR_trip_14 : decode c_GR_trip 14 = .ok (.invokestatic 67, 3) := by decide +kernel
theorem d_GR_trip_17 : decode c_GR_trip 17 = .ok (.ifCond .ne 6, 3) := by decide +kernel
theorem d_GR_trip_20 : decode c_GR_trip 20 = .ok (.bipush (-2), 2) := by decide +kernel
theorem d_GR_trip_22 : decode c_GR_trip 22 = .ok (.ireturn, 1) := by decide +kernel
theorem d_GR_trip_23 : decode c_GR_trip 23 = .ok (.aload_n 0, 1) := by decide +kernel
theorem d_GR_trip_24 : decode c_GR_trip 24 = .ok (.getfield 35, 3) := by decide +kernel
theorem d_GR_trip_27 : decode c_GR_trip 27 = .ok (.invokevirtual 150, 3) := by decide +kernel
theorem d_GR_trip_30 : decode c_GR_trip 30 = .ok (.ifCond .eq 6, 3) := by decide +kernel
theorem d_GR_trip_33 : decode c_GR_trip 33 = .ok (.bipush (-4), 2) := by decide +kernel
theorem d_GR_trip_35 : decode c_GR_trip 35 = .ok (.ireturn, 1) := by decide +kernel
theorem d_GR_trip_36 : decode c_GR_trip 36 = .ok (.aload_n 0, 1) := by decide +kernel
theorem d_GR_trip_37 : decode c_GR_trip 37 = .ok (.getfield 35, 3) := by decide +kernel
theorem d_GR_trip_40 : decode c_GR_trip 40 = .ok (.iload_n 1, 1) := by decide +kernel
theorem d_GR_trip_41 : decode c_GR_trip 41 = .ok (.iload_n 2, 1) := by decide +kernel
theorem d_GR_trip_42 : decode c_GR_trip 42 = .ok (.iload_n 3, 1) := by decide +kernel
theorem d_GR_trip_43 : decode c_GR_trip 43 = .ok (.iload 4, 2) := by decide +kernel
theorem d_GR_trip_45 : decode c_GR_trip 45 = .ok (.iload 5, 2) := by decide +kernel
theorem d_GR_trip_47 : decode c_GR_trip 47 = .ok (.invokevirtual 151, 3) := by decide +kernel
theorem d_GR_trip_50 : decode c_GR_trip 50 = .ok (.aload_n 0, 1) := by decide +kernel
theorem d_GR_trip_51 : decode c_GR_trip 51 = .ok (.getfield 35, 3) := by decide +kernel
theorem d_GR_trip_54 : decode c_GR_trip 54 = .ok (.getfield 154, 3) := by decide +kernel
theorem d_GR_trip_57 : decode c_GR_trip 57 = .ok (.iconst 1, 1) := by decide +kernel
theorem d_GR_trip_58 : decode c_GR_trip 58 = .ok (.isub, 1) := by decide +kernel
theorem d_GR_trip_59 : decode c_GR_trip 59 = .ok (.ireturn, 1) := by decide +kernel
theorem d_Ss_at_0 : decode c_Ss_at 0 = .ok (.iload_n 1, 1) := by decide +kernel
theorem d_Ss_at_1 : decode c_Ss_at 1 = .ok (.iconst 4, 1) := by decide +kernel
theorem d_Ss_at_2 : decode c_Ss_at 2 = .ok (.invokestatic 22, 3) := by decide +kernel
theorem d_Ss_at_5 : decode c_Ss_at 5 = .ok (.ifCond .eq 12, 3) := by decide +kernel
theorem d_Ss_at_8 : decode c_Ss_at 8 = .ok (.aload_n 0, 1) := by decide +kernel
theorem d_Ss_at_9 : decode c_Ss_at 9 = .ok (.getfield 11, 3) := by decide +kernel
theorem d_Ss_at_12 : decode c_Ss_at 12 = .ok (.iload_n 1, 1) := by decide +kernel
theorem d_Ss_at_13 : decode c_Ss_at 13 = .ok (.aaload, 1) := by decide +kernel
theorem d_Ss_at_14 : decode c_Ss_at 14 = .ok (.goto 4, 3) := by decide +kernel
theorem d_Ss_at_17 : decode c_Ss_at 17 = .ok (.aconst_null, 1) := by decide +kernel
theorem d_Ss_at_18 : decode c_Ss_at 18 = .ok (.astore_n 2, 1) := by decide +kernel
theorem d_Ss_at_19 : decode c_Ss_at 19 = .ok (.aload_n 2, 1) := by decide +kernel
theorem d_Ss_at_20 : decode c_Ss_at 20 = .ok (.ifnonnull 10, 3) := by decide +kernel
theorem d_Ss_at_23 : decode c_Ss_at 23 = .ok (.aload_n 0, 1) := by decide +kernel
theorem d_Ss_at_24 : decode c_Ss_at 24 = .ok (.getfield 18, 3) := by decide +kernel
theorem d_Ss_at_27 : decode c_Ss_at 27 = .ok (.goto 4, 3) := by decide +kernel
theorem d_Ss_at_30 : decode c_Ss_at 30 = .ok (.aload_n 2, 1) := by decide +kernel
theorem d_Ss_at_31 : decode c_Ss_at 31 = .ok (.areturn, 1) := by decide +kernel
theorem d_Sh_isLost_0 : decode c_Sh_isLost 0 = .ok (.aload_n 0, 1) := by decide +kernel
theorem d_Sh_isLost_1 : decode c_Sh_isLost 1 = .ok (.getfield 15, 3) := by decide +kernel
theorem d_Sh_isLost_4 : decode c_Sh_isLost 4 = .ok (.iconst (-1), 1) := by decide +kernel
theorem d_Sh_isLost_5 : decode c_Sh_isLost 5 = .ok (.if_icmp .ne 7, 3) := by decide +kernel
theorem d_Sh_isLost_8 : decode c_Sh_isLost 8 = .ok (.iconst 1, 1) := by decide +kernel
theorem d_Sh_isLost_9 : decode c_Sh_isLost 9 = .ok (.goto 4, 3) := by decide +kernel
theorem d_Sh_isLost_12 : decode c_Sh_isLost 12 = .ok (.iconst 0, 1) := by decide +kernel
theorem d_Sh_isLost_13 : decode c_Sh_isLost 13 = .ok (.ireturn, 1) := by decide +kernel
def f_GR_lowestTerm_31 (k2 : Int32 → Int32 → Int32 → Int32 → Option Int32) (v0 : Int32) (v1 : Int32) (v2 : Int32) (v3 : Int32) : Option Int32 :=
  k2 v0 v1 v2 (v3 + (-1))
set_option maxHeartbeats 4000000 in
theorem j_GR_lowestTerm_31 {V : Vx} {X : Xx} {σ : Sg} {r : Int32} {k2 : Int32 → Int32 → Int32 → Int32 → Option Int32} (hk2 : ∀ (v0 : Int32) (v1 : Int32) (v2 : Int32) (v3 : Int32), k2 v0 v1 v2 v3 = some r → J V X (k2_rm 0 0) c_GR_lowestTerm R_GR 4 (some .int) (Qr V X (some (.int r)) σ) σ 2 [(0, .int v0), (1, .int v1), (2, .int v2), (3, .int v3)] []) (v0 : Int32) (v1 : Int32) (v2 : Int32) (v3 : Int32) (hf : f_GR_lowestTerm_31 k2 v0 v1 v2 v3 = some r) : J V X (k2_rm 0 0) c_GR_lowestTerm R_GR 4 (some .int) (Qr V X (some (.int r)) σ) σ 31 [(0, .int v0), (1, .int v1), (2, .int v2), (3, .int v3)] [] := by
  unfold f_GR_lowestTerm_31 at hf
  refine J_iinc (pc' := 34) (j := 3) (v := (-1)) (lv' := [(3, .int (v3 + (-1))), (0, .int v0), (1, .int v1), (2, .int v2)]) d_GR_lowestTerm_31 rfl rfl ic_m1 (by decide) rfl ?_
  refine J_goto (tgt := 2) d_GR_lowestTerm_34 (by decide) ?_
  refine J_pick [1, 2, 3, 0] rfl ?_
  exact hk2 _ _ _ _ hf
def f_GR_lowestTerm_2 : Nat → Int32 → Int32 → Int32 → Int32 → Option Int32
  | 0, _, _, _, _ => none
  | n + 1, v0, v1, v2, v3 =>
    if v3 < 1 then
      some 0
    else
      gd (decide (¬ v3 = 0)) (
        if (v0 - v0 / v3 * v3) = 0 then
          gd (decide (¬ v3 = 0)) (
            if (v1 - v1 / v3 * v3) = 0 then
              if v2 = 0 then
                gd (decide (¬ v3 = 0)) (
                  some (v0 / v3))
              else
                gd (decide (¬ v3 = 0)) (
                  some (v1 / v3))
            else
              f_GR_lowestTerm_31 (f_GR_lowestTerm_2 n) v0 v1 v2 v3)
        else
          f_GR_lowestTerm_31 (f_GR_lowestTerm_2 n) v0 v1 v2 v3)
theorem f_GR_lowestTerm_2_s (n : Nat) (v0 : Int32) (v1 : Int32) (v2 : Int32) (v3 : Int32) : f_GR_lowestTerm_2 (n + 1) v0 v1 v2 v3 =
    if v3 < 1 then
      some 0
    else
      gd (decide (¬ v3 = 0)) (
        if (v0 - v0 / v3 * v3) = 0 then
          gd (decide (¬ v3 = 0)) (
            if (v1 - v1 / v3 * v3) = 0 then
              if v2 = 0 then
                gd (decide (¬ v3 = 0)) (
                  some (v0 / v3))
              else
                gd (decide (¬ v3 = 0)) (
                  some (v1 / v3))
            else
              f_GR_lowestTerm_31 (f_GR_lowestTerm_2 n) v0 v1 v2 v3)
        else
          f_GR_lowestTerm_31 (f_GR_lowestTerm_2 n) v0 v1 v2 v3) := rfl
set_option maxHeartbeats 4000000 in
theorem j_GR_lowestTerm_2 {V : Vx} {X : Xx} {σ : Sg} {r : Int32}  : ∀ (n : Nat) (v0 : Int32) (v1 : Int32) (v2 : Int32) (v3 : Int32), f_GR_lowestTerm_2 n v0 v1 v2 v3 = some r → J V X (k2_rm 0 0) c_GR_lowestTerm R_GR 4 (some .int) (Qr V X (some (.int r)) σ) σ 2 [(0, .int v0), (1, .int v1), (2, .int v2), (3, .int v3)] [] := by
  intro n
  induction n with
  | zero => intro v0 v1 v2 v3 hf; exact nn hf
  | succ n ih =>
    intro v0 v1 v2 v3 hf
    rw [f_GR_lowestTerm_2_s] at hf
    refine J_iload_n (pc' := 3) d_GR_lowestTerm_2 rfl 3 rfl ?_
    refine J_iconst (pc' := 4) (v := 1) d_GR_lowestTerm_3 rfl ic_1 ?_
    refine J_icmp_lt (pc' := 7) (tgt := 37) d_GR_lowestTerm_4 rfl (by decide) (fun hc1 => ?_) (fun hc1 => ?_)
    · have hf := brT hc1 hf
      refine J_iconst (pc' := 38) (v := 0) d_GR_lowestTerm_37 rfl ic_0 ?_
      obtain rfl := Option.some.inj hf
      exact J_iret d_GR_lowestTerm_38
    · have hf := brF hc1 hf
      refine J_iload_n (pc' := 8) d_GR_lowestTerm_7 rfl 0 rfl ?_
      refine J_iload_n (pc' := 9) d_GR_lowestTerm_8 rfl 3 rfl ?_
      obtain ⟨hg2, hf⟩ := gdE hf
      refine J_irem (pc' := 10) d_GR_lowestTerm_9 rfl (of_decide_eq_true hg2) ?_
      refine J_if_ne (pc' := 13) (tgt := 31) d_GR_lowestTerm_10 rfl (by decide) (fun hc3 => ?_) (fun hc3 => ?_)
      · have hf := brF hc3 hf
        exact j_GR_lowestTerm_31 ih _ _ _ _ hf
      · have hf := brT hc3 hf
        refine J_iload_n (pc' := 14) d_GR_lowestTerm_13 rfl 1 rfl ?_
        refine J_iload_n (pc' := 15) d_GR_lowestTerm_14 rfl 3 rfl ?_
        obtain ⟨hg4, hf⟩ := gdE hf
        refine J_irem (pc' := 16) d_GR_lowestTerm_15 rfl (of_decide_eq_true hg4) ?_
        refine J_if_ne (pc' := 19) (tgt := 31) d_GR_lowestTerm_16 rfl (by decide) (fun hc5 => ?_) (fun hc5 => ?_)
        · have hf := brF hc5 hf
          exact j_GR_lowestTerm_31 ih _ _ _ _ hf
        · have hf := brT hc5 hf
          refine J_iload_n (pc' := 20) d_GR_lowestTerm_19 rfl 2 rfl ?_
          refine J_if_ne (pc' := 23) (tgt := 27) d_GR_lowestTerm_20 rfl (by decide) (fun hc6 => ?_) (fun hc6 => ?_)
          · have hf := brF hc6 hf
            refine J_iload_n (pc' := 28) d_GR_lowestTerm_27 rfl 1 rfl ?_
            refine J_iload_n (pc' := 29) d_GR_lowestTerm_28 rfl 3 rfl ?_
            obtain ⟨hg7, hf⟩ := gdE hf
            refine J_idiv (pc' := 30) d_GR_lowestTerm_29 rfl (of_decide_eq_true hg7) ?_
            obtain rfl := Option.some.inj hf
            exact J_iret d_GR_lowestTerm_30
          · have hf := brT hc6 hf
            refine J_iload_n (pc' := 24) d_GR_lowestTerm_23 rfl 0 rfl ?_
            refine J_goto (tgt := 28) d_GR_lowestTerm_24 (by decide) ?_
            refine J_iload_n (pc' := 29) d_GR_lowestTerm_28 rfl 3 rfl ?_
            obtain ⟨hg8, hf⟩ := gdE hf
            refine J_idiv (pc' := 30) d_GR_lowestTerm_29 rfl (of_decide_eq_true hg8) ?_
            obtain rfl := Option.some.inj hf
            exact J_iret d_GR_lowestTerm_30
def f_GR_lowestTerm (v0 : Int32) (v1 : Int32) (v2 : Int32) : Option Int32 :=
  f_GR_lowestTerm_2 FU v0 v1 v2 v1
set_option maxHeartbeats 4000000 in
theorem j_GR_lowestTerm {V : Vx} {X : Xx} {r : Int32} (σ : Sg) (v0 : Int32) (v1 : Int32) (v2 : Int32) (hf : f_GR_lowestTerm v0 v1 v2 = some r) : J V X (k2_rm 0 0) c_GR_lowestTerm R_GR 4 (some .int) (Qr V X (some (.int r)) σ) σ 0 [(0, .int v0), (1, .int v1), (2, .int v2)] [] := by
  unfold f_GR_lowestTerm at hf
  refine J_iload_n (pc' := 1) d_GR_lowestTerm_0 rfl 1 rfl ?_
  refine J_istore_n (pc' := 2) (lv' := [(3, .int v1), (0, .int v0), (1, .int v1), (2, .int v2)]) d_GR_lowestTerm_1 rfl rfl (by decide) rfl ?_
  refine J_pick [1, 2, 3, 0] rfl ?_
  exact j_GR_lowestTerm_2 FU _ _ _ _ hf
theorem ct_GR_lowestTerm (V : Vx) (l : Launch) (σ : Sg) (v0 : Int32) (v1 : Int32) (v2 : Int32) {r : Int32} (hf : f_GR_lowestTerm v0 v1 v2 = some r) : Ct V l y_GR_lowestTerm c_GR_lowestTerm 4 (some .int) (k2_rm 0 0) [.int v0, .int v1, .int v2] σ (some (.int r)) σ := Ct.ofJ (by decide +kernel) (Nat.le_of_ble_eq_true rfl) fun X _ => j_GR_lowestTerm _ v0 v1 v2 hf
def f_GR_crossingAsTold_85 (σ : Sg) (v4 : Int32) (v7 : Int32) (v8 : Int32) : Option Int64 :=
  (f_GR_lowestTerm v8 v7 v4).bind fun r4 =>
    some r4.toInt64
set_option maxHeartbeats 4000000 in
theorem j_GR_crossingAsTold_85 {V : Vx} {X : Xx} {σ : Sg} {r : Int64}  (v4 : Int32) (v7 : Int32) (v8 : Int32) (hf : f_GR_crossingAsTold_85 σ v4 v7 v8 = some r) : J V X (k2_rm 3 63) c_GR_crossingAsTold R_GR 9 (some .long) (Qr V X (some (.long r)) σ) σ 85 [(4, .int v4), (7, .int v7), (8, .int v8)] [] := by
  unfold f_GR_crossingAsTold_85 at hf
  refine J_iload (pc' := 87) d_GR_crossingAsTold_85 rfl 2 rfl ?_
  refine J_iload (pc' := 89) d_GR_crossingAsTold_87 rfl 1 rfl ?_
  refine J_iload (pc' := 91) d_GR_crossingAsTold_89 rfl 0 rfl ?_
  obtain ⟨r4, hq3, hf⟩ := bpE hf
  refine J_S (pc' := 94) (as := [.int v8, .int v7, .int v4]) (rest := []) (st' := [.int r4]) d_GR_crossingAsTold_91 rfl ms_GR_355 (ct_GR_lowestTerm V _ σ v8 v7 v4 hq3) rfl rfl ⟨Nat.le_of_ble_eq_true rfl, Nat.le_of_ble_eq_true rfl⟩ ⟨rfl, rfl⟩ (Nat.le_of_ble_eq_true rfl) rfl ?_
  refine J_i2l (pc' := 95) d_GR_crossingAsTold_94 rfl ?_
  obtain rfl := Option.some.inj hf
  exact J_lret d_GR_crossingAsTold_95
def f_GR_crossingAsTold (σ : Sg) (v1 : Int32) (v2 : Int32) (v3 : Int32) (v4 : Int32) : Option Int64 :=
  if (f_Ro_meets σ (f_Rs_at v1) (f_Rs_at v2)) = 0 then
    some (f_GR_longRefusal (-3))
  else
    if v3 = 1 then
      f_GR_crossingAsTold_85 σ v4 (f_Ro_span σ (f_Rs_at v1) (f_Rs_at v2)) (((σ.1 (f_Rs_at v1) 0) * (f_Ro_span σ (f_Rs_at v1) (f_Rs_at v2))) + (((σ.1 (f_Rs_at v1) 1) - (σ.1 (f_Rs_at v1) 0)) * (f_Ro_apart σ (f_Rs_at v1) (f_Rs_at v2) 0)))
    else
      f_GR_crossingAsTold_85 σ v4 (f_Ro_span σ (f_Rs_at v1) (f_Rs_at v2)) (f_Ro_apart σ (f_Rs_at v1) (f_Rs_at v2) 0)
set_option maxHeartbeats 4000000 in
theorem j_GR_crossingAsTold {V : Vx} {X : Xx} {r : Int64} (σ : Sg) (v1 : Int32) (v2 : Int32) (v3 : Int32) (v4 : Int32) (hf : f_GR_crossingAsTold σ v1 v2 v3 v4 = some r) : J V X (k2_rm 3 63) c_GR_crossingAsTold R_GR 9 (some .long) (Qr V X (some (.long r)) σ) σ 0 [(0, rf V 0), (1, .int v1), (2, .int v2), (3, .int v3), (4, .int v4)] [] := by
  unfold f_GR_crossingAsTold at hf
  refine J_aload_n (pc' := 1) d_GR_crossingAsTold_0 rfl 0 rfl ?_
  refine J_getR (pc' := 4) d_GR_crossingAsTold_1 rfl sh_0 fl_GR_24 rfl ?_
  refine J_iload_n (pc' := 5) d_GR_crossingAsTold_4 rfl 1 rfl ?_
  refine J_V (pc' := 8) (as := [.int v1]) (rest := []) (st' := [rf V (f_Rs_at v1)]) d_GR_crossingAsTold_5 rfl sh_5 rfl mv_GR_104 (ct_Rs_at V _ σ v1) rfl rfl ⟨Nat.le_of_ble_eq_true rfl, Nat.le_of_ble_eq_true rfl⟩ ⟨rfl, rfl⟩ (Nat.le_of_ble_eq_true rfl) rfl ?_
  refine J_astore (pc' := 10) (lv' := [(5, rf V (f_Rs_at v1)), (0, rf V 0), (1, .int v1), (2, .int v2), (3, .int v3), (4, .int v4)]) d_GR_crossingAsTold_8 rfl (by decide) rfl ?_
  refine J_aload_n (pc' := 11) d_GR_crossingAsTold_10 rfl 1 rfl ?_
  refine J_getR (pc' := 14) d_GR_crossingAsTold_11 rfl sh_0 fl_GR_24 rfl ?_
  refine J_iload_n (pc' := 15) d_GR_crossingAsTold_14 rfl 3 rfl ?_
  refine J_V (pc' := 18) (as := [.int v2]) (rest := []) (st' := [rf V (f_Rs_at v2)]) d_GR_crossingAsTold_15 rfl sh_5 rfl mv_GR_104 (ct_Rs_at V _ σ v2) rfl rfl ⟨Nat.le_of_ble_eq_true rfl, Nat.le_of_ble_eq_true rfl⟩ ⟨rfl, rfl⟩ (Nat.le_of_ble_eq_true rfl) rfl ?_
  refine J_astore (pc' := 20) (lv' := [(6, rf V (f_Rs_at v2)), (5, rf V (f_Rs_at v1)), (0, rf V 0), (1, .int v1), (2, .int v2), (3, .int v3), (4, .int v4)]) d_GR_crossingAsTold_18 rfl (by decide) rfl ?_
  refine J_aload (pc' := 22) d_GR_crossingAsTold_20 rfl 1 rfl ?_
  refine J_aload (pc' := 24) d_GR_crossingAsTold_22 rfl 0 rfl ?_
  refine J_V (pc' := 27) (as := [rf V (f_Rs_at v2)]) (rest := []) (st' := [.int (f_Ro_meets σ (f_Rs_at v1) (f_Rs_at v2))]) d_GR_crossingAsTold_24 rfl (sh_Ro (is_Rs_at v1)) rfl mv_GR_121 (ct_Ro_meets V _ σ (f_Rs_at v1) (f_Rs_at v2) (is_Rs_at v1) (is_Rs_at v2)) rfl rfl ⟨Nat.le_of_ble_eq_true rfl, Nat.le_of_ble_eq_true rfl⟩ ⟨rfl, rfl⟩ (Nat.le_of_ble_eq_true rfl) rfl ?_
  refine J_if_ne (pc' := 30) (tgt := 36) d_GR_crossingAsTold_27 rfl (by decide) (fun hc1 => ?_) (fun hc1 => ?_)
  · have hf := brF hc1 hf
    refine J_aload (pc' := 38) d_GR_crossingAsTold_36 rfl 1 rfl ?_
    refine J_aload (pc' := 40) d_GR_crossingAsTold_38 rfl 0 rfl ?_
    refine J_V (pc' := 43) (as := [rf V (f_Rs_at v2)]) (rest := []) (st' := [.int (f_Ro_span σ (f_Rs_at v1) (f_Rs_at v2))]) d_GR_crossingAsTold_40 rfl (sh_Ro (is_Rs_at v1)) rfl mv_GR_342 (ct_Ro_span V _ σ (f_Rs_at v1) (f_Rs_at v2) (is_Rs_at v1) (is_Rs_at v2)) rfl rfl ⟨Nat.le_of_ble_eq_true rfl, Nat.le_of_ble_eq_true rfl⟩ ⟨rfl, rfl⟩ (Nat.le_of_ble_eq_true rfl) rfl ?_
    refine J_istore (pc' := 45) (lv' := [(7, .int (f_Ro_span σ (f_Rs_at v1) (f_Rs_at v2))), (6, rf V (f_Rs_at v2)), (5, rf V (f_Rs_at v1)), (0, rf V 0), (1, .int v1), (2, .int v2), (3, .int v3), (4, .int v4)]) d_GR_crossingAsTold_43 rfl (by decide) rfl ?_
    refine J_aload (pc' := 47) d_GR_crossingAsTold_45 rfl 2 rfl ?_
    refine J_aload (pc' := 49) d_GR_crossingAsTold_47 rfl 1 rfl ?_
    refine J_iconst (pc' := 50) (v := 0) d_GR_crossingAsTold_49 rfl ic_0 ?_
    refine J_V (pc' := 53) (as := [rf V (f_Rs_at v2), .int 0]) (rest := []) (st' := [.int (f_Ro_apart σ (f_Rs_at v1) (f_Rs_at v2) 0)]) d_GR_crossingAsTold_50 rfl (sh_Ro (is_Rs_at v1)) rfl mv_GR_345 (ct_Ro_apart V _ σ (f_Rs_at v1) (f_Rs_at v2) 0 (is_Rs_at v1) (is_Rs_at v2)) rfl rfl ⟨Nat.le_of_ble_eq_true rfl, Nat.le_of_ble_eq_true rfl⟩ ⟨rfl, rfl⟩ (Nat.le_of_ble_eq_true rfl) rfl ?_
    refine J_istore (pc' := 55) (lv' := [(8, .int (f_Ro_apart σ (f_Rs_at v1) (f_Rs_at v2) 0)), (7, .int (f_Ro_span σ (f_Rs_at v1) (f_Rs_at v2))), (6, rf V (f_Rs_at v2)), (5, rf V (f_Rs_at v1)), (0, rf V 0), (1, .int v1), (2, .int v2), (3, .int v3), (4, .int v4)]) d_GR_crossingAsTold_53 rfl (by decide) rfl ?_
    refine J_iload_n (pc' := 56) d_GR_crossingAsTold_55 rfl 7 rfl ?_
    refine J_iconst (pc' := 57) (v := 1) d_GR_crossingAsTold_56 rfl ic_1 ?_
    refine J_icmp_ne (pc' := 60) (tgt := 85) d_GR_crossingAsTold_57 rfl (by decide) (fun hc2 => ?_) (fun hc2 => ?_)
    · have hf := brF hc2 hf
      refine J_pick [8, 1, 0] rfl ?_
      exact j_GR_crossingAsTold_85 _ _ _ hf
    · have hf := brT hc2 hf
      refine J_aload (pc' := 62) d_GR_crossingAsTold_60 rfl 3 rfl ?_
      refine J_getI (pc' := 65) d_GR_crossingAsTold_62 rfl (sh_Ro (is_Rs_at v1)) fl_GR_349 rfl ?_
      refine J_iload (pc' := 67) d_GR_crossingAsTold_65 rfl 1 rfl ?_
      refine J_imul (pc' := 68) d_GR_crossingAsTold_67 rfl ?_
      refine J_aload (pc' := 70) d_GR_crossingAsTold_68 rfl 3 rfl ?_
      refine J_getI (pc' := 73) d_GR_crossingAsTold_70 rfl (sh_Ro (is_Rs_at v1)) fl_GR_352 rfl ?_
      refine J_aload (pc' := 75) d_GR_crossingAsTold_73 rfl 3 rfl ?_
      refine J_getI (pc' := 78) d_GR_crossingAsTold_75 rfl (sh_Ro (is_Rs_at v1)) fl_GR_349 rfl ?_
      refine J_isub (pc' := 79) d_GR_crossingAsTold_78 rfl ?_
      refine J_iload (pc' := 81) d_GR_crossingAsTold_79 rfl 0 rfl ?_
      refine J_imul (pc' := 82) d_GR_crossingAsTold_81 rfl ?_
      refine J_iadd (pc' := 83) d_GR_crossingAsTold_82 rfl ?_
      refine J_istore (pc' := 85) (lv' := [(8, .int (((σ.1 (f_Rs_at v1) 0) * (f_Ro_span σ (f_Rs_at v1) (f_Rs_at v2))) + (((σ.1 (f_Rs_at v1) 1) - (σ.1 (f_Rs_at v1) 0)) * (f_Ro_apart σ (f_Rs_at v1) (f_Rs_at v2) 0)))), (7, .int (f_Ro_span σ (f_Rs_at v1) (f_Rs_at v2))), (6, rf V (f_Rs_at v2)), (5, rf V (f_Rs_at v1)), (0, rf V 0), (1, .int v1), (2, .int v2), (3, .int v3), (4, .int v4)]) d_GR_crossingAsTold_83 rfl (by decide) rfl ?_
      refine J_pick [8, 1, 0] rfl ?_
      exact j_GR_crossingAsTold_85 _ _ _ hf
  · have hf := brT hc1 hf
    refine J_bipush (pc' := 32) (v := (-3)) d_GR_crossingAsTold_30 rfl bc_m3 ?_
    refine J_S (pc' := 35) (as := [.int (-3)]) (rest := []) (st' := [.long (f_GR_longRefusal (-3))]) d_GR_crossingAsTold_32 rfl ms_GR_125 (ct_GR_longRefusal V _ σ (-3)) rfl rfl ⟨Nat.le_of_ble_eq_true rfl, Nat.le_of_ble_eq_true rfl⟩ ⟨rfl, rfl⟩ (Nat.le_of_ble_eq_true rfl) rfl ?_
    obtain rfl := Option.some.inj hf
    exact J_lret d_GR_crossingAsTold_35
theorem ct_GR_crossingAsTold (V : Vx) (l : Launch) (σ : Sg) (v1 : Int32) (v2 : Int32) (v3 : Int32) (v4 : Int32) {r : Int64} (hf : f_GR_crossingAsTold σ v1 v2 v3 v4 = some r) : Ct V l y_GR_crossingAsTold c_GR_crossingAsTold 9 (some .long) (k2_rm 3 63) [rf V 0, .int v1, .int v2, .int v3, .int v4] σ (some (.long r)) σ := Ct.ofJ (by decide +kernel) (Nat.le_of_ble_eq_true rfl) fun X _ => j_GR_crossingAsTold _ v1 v2 v3 v4 hf
def f_GR_crossing_29 (σ : Sg)  : Option Int64 :=
  some (f_GR_longRefusal (-2))
set_option maxHeartbeats 4000000 in
theorem j_GR_crossing_29 {V : Vx} {X : Xx} {σ : Sg} {r : Int64}   (hf : f_GR_crossing_29 σ = some r) : J V X (k2_rm 4 91) c_GR_crossing R_GR 5 (some .long) (Qr V X (some (.long r)) σ) σ 29 [] [] := by
  unfold f_GR_crossing_29 at hf
  refine J_bipush (pc' := 31) (v := (-2)) d_GR_crossing_29 rfl bc_m2 ?_
  refine J_S (pc' := 34) (as := [.int (-2)]) (rest := []) (st' := [.long (f_GR_longRefusal (-2))]) d_GR_crossing_31 rfl ms_GR_125 (ct_GR_longRefusal V _ σ (-2)) rfl rfl ⟨Nat.le_of_ble_eq_true rfl, Nat.le_of_ble_eq_true rfl⟩ ⟨rfl, rfl⟩ (Nat.le_of_ble_eq_true rfl) rfl ?_
  obtain rfl := Option.some.inj hf
  exact J_lret d_GR_crossing_34
def f_GR_crossing (σ : Sg) (v1 : Int32) (v2 : Int32) (v3 : Int32) (v4 : Int32) : Option Int64 :=
  if (f_Rs_hasTwo σ v1 v2) = 0 then
    f_GR_crossing_29 σ
  else
    if (f_GR_isBelow v3 2) = 0 then
      f_GR_crossing_29 σ
    else
      if (f_GR_isBelow v4 2) = 0 then
        f_GR_crossing_29 σ
      else
        (f_GR_crossingAsTold σ v1 v2 v3 v4).bind fun r5 =>
          some r5
set_option maxHeartbeats 4000000 in
theorem j_GR_crossing {V : Vx} {X : Xx} {r : Int64} (σ : Sg) (v1 : Int32) (v2 : Int32) (v3 : Int32) (v4 : Int32) (hf : f_GR_crossing σ v1 v2 v3 v4 = some r) : J V X (k2_rm 4 91) c_GR_crossing R_GR 5 (some .long) (Qr V X (some (.long r)) σ) σ 0 [(0, rf V 0), (1, .int v1), (2, .int v2), (3, .int v3), (4, .int v4)] [] := by
  unfold f_GR_crossing at hf
  refine J_aload_n (pc' := 1) d_GR_crossing_0 rfl 0 rfl ?_
  refine J_getR (pc' := 4) d_GR_crossing_1 rfl sh_0 fl_GR_24 rfl ?_
  refine J_iload_n (pc' := 5) d_GR_crossing_4 rfl 1 rfl ?_
  refine J_iload_n (pc' := 6) d_GR_crossing_5 rfl 2 rfl ?_
  refine J_V (pc' := 9) (as := [.int v1, .int v2]) (rest := []) (st' := [.int (f_Rs_hasTwo σ v1 v2)]) d_GR_crossing_6 rfl sh_5 rfl mv_GR_114 (ct_Rs_hasTwo V _ σ v1 v2) rfl rfl ⟨Nat.le_of_ble_eq_true rfl, Nat.le_of_ble_eq_true rfl⟩ ⟨rfl, rfl⟩ (Nat.le_of_ble_eq_true rfl) rfl ?_
  refine J_if_eq (pc' := 12) (tgt := 29) d_GR_crossing_9 rfl (by decide) (fun hc1 => ?_) (fun hc1 => ?_)
  · have hf := brT hc1 hf
    refine J_pick [] rfl ?_
    exact j_GR_crossing_29 hf
  · have hf := brF hc1 hf
    refine J_iload_n (pc' := 13) d_GR_crossing_12 rfl 3 rfl ?_
    refine J_iconst (pc' := 14) (v := 2) d_GR_crossing_13 rfl ic_2 ?_
    refine J_S (pc' := 17) (as := [.int v3, .int 2]) (rest := []) (st' := [.int (f_GR_isBelow v3 2)]) d_GR_crossing_14 rfl ms_GR_67 (ct_GR_isBelow V _ σ v3 2) rfl rfl ⟨Nat.le_of_ble_eq_true rfl, Nat.le_of_ble_eq_true rfl⟩ ⟨rfl, rfl⟩ (Nat.le_of_ble_eq_true rfl) rfl ?_
    refine J_if_eq (pc' := 20) (tgt := 29) d_GR_crossing_17 rfl (by decide) (fun hc2 => ?_) (fun hc2 => ?_)
    · have hf := brT hc2 hf
      refine J_pick [] rfl ?_
      exact j_GR_crossing_29 hf
    · have hf := brF hc2 hf
      refine J_iload (pc' := 22) d_GR_crossing_20 rfl 4 rfl ?_
      refine J_iconst (pc' := 23) (v := 2) d_GR_crossing_22 rfl ic_2 ?_
      refine J_S (pc' := 26) (as := [.int v4, .int 2]) (rest := []) (st' := [.int (f_GR_isBelow v4 2)]) d_GR_crossing_23 rfl ms_GR_67 (ct_GR_isBelow V _ σ v4 2) rfl rfl ⟨Nat.le_of_ble_eq_true rfl, Nat.le_of_ble_eq_true rfl⟩ ⟨rfl, rfl⟩ (Nat.le_of_ble_eq_true rfl) rfl ?_
      refine J_if_ne (pc' := 29) (tgt := 35) d_GR_crossing_26 rfl (by decide) (fun hc3 => ?_) (fun hc3 => ?_)
      · have hf := brF hc3 hf
        refine J_aload_n (pc' := 36) d_GR_crossing_35 rfl 0 rfl ?_
        refine J_iload_n (pc' := 37) d_GR_crossing_36 rfl 1 rfl ?_
        refine J_iload_n (pc' := 38) d_GR_crossing_37 rfl 2 rfl ?_
        refine J_iload_n (pc' := 39) d_GR_crossing_38 rfl 3 rfl ?_
        refine J_iload (pc' := 41) d_GR_crossing_39 rfl 4 rfl ?_
        obtain ⟨r5, hq4, hf⟩ := bpE hf
        refine J_V (pc' := 44) (as := [.int v1, .int v2, .int v3, .int v4]) (rest := []) (st' := [.long r5]) d_GR_crossing_41 rfl sh_0 rfl mv_GR_129 (ct_GR_crossingAsTold V _ σ v1 v2 v3 v4 hq4) rfl rfl ⟨Nat.le_of_ble_eq_true rfl, Nat.le_of_ble_eq_true rfl⟩ ⟨rfl, rfl⟩ (Nat.le_of_ble_eq_true rfl) rfl ?_
        obtain rfl := Option.some.inj hf
        exact J_lret d_GR_crossing_44
      · have hf := brT hc3 hf
        refine J_pick [] rfl ?_
        exact j_GR_crossing_29 hf
theorem ct_GR_crossing (V : Vx) (l : Launch) (σ : Sg) (v1 : Int32) (v2 : Int32) (v3 : Int32) (v4 : Int32) {r : Int64} (hf : f_GR_crossing σ v1 v2 v3 v4 = some r) : Ct V l y_GR_crossing c_GR_crossing 5 (some .long) (k2_rm 4 91) [rf V 0, .int v1, .int v2, .int v3, .int v4] σ (some (.long r)) σ := Ct.ofJ (by decide +kernel) (Nat.le_of_ble_eq_true rfl) fun X _ => j_GR_crossing _ v1 v2 v3 v4 hf
def f_Ro_fare (σ : Sg) (v0 : Nat) (v1 : Int32) (v2 : Int32) : Int32 :=
  if v1 = 0 then ((σ.1 v0 4) * (v2 + 1)) + (σ.1 v0 7) else ((σ.1 v0 4) * (v2 + 1)) + (σ.1 v0 8)
set_option maxHeartbeats 4000000 in
theorem j_Ro_fare {V : Vx} {X : Xx} {r : Int32} (σ : Sg) (v0 : Nat) (v1 : Int32) (v2 : Int32) (iv0 : is_Ro v0) (hf : f_Ro_fare σ v0 v1 v2 = r) : J V X (k2_rm 0 0) c_Ro_fare R_Ro 3 (some .int) (Qr V X (some (.int r)) σ) σ 0 [(0, rf V v0), (1, .int v1), (2, .int v2)] [] := by
  unfold f_Ro_fare at hf
  refine J_aload_n (pc' := 1) d_Ro_fare_0 rfl 0 rfl ?_
  refine J_getI (pc' := 4) d_Ro_fare_1 rfl (sh_Ro iv0) fl_Ro_22 rfl ?_
  refine J_iload_n (pc' := 5) d_Ro_fare_4 rfl 2 rfl ?_
  refine J_iconst (pc' := 6) (v := 1) d_Ro_fare_5 rfl ic_1 ?_
  refine J_iadd (pc' := 7) d_Ro_fare_6 rfl ?_
  refine J_imul (pc' := 8) d_Ro_fare_7 rfl ?_
  refine J_iload_n (pc' := 9) d_Ro_fare_8 rfl 1 rfl ?_
  refine J_if_ne (pc' := 12) (tgt := 19) d_Ro_fare_9 rfl (by decide) (fun hc1 => ?_) (fun hc1 => ?_)
  · have hf := brF hc1 hf
    refine J_aload_n (pc' := 20) d_Ro_fare_19 rfl 0 rfl ?_
    refine J_getI (pc' := 23) d_Ro_fare_20 rfl (sh_Ro iv0) fl_Ro_44 rfl ?_
    refine J_iadd (pc' := 24) d_Ro_fare_23 rfl ?_
    subst hf
    exact J_iret d_Ro_fare_24
  · have hf := brT hc1 hf
    refine J_aload_n (pc' := 13) d_Ro_fare_12 rfl 0 rfl ?_
    refine J_getI (pc' := 16) d_Ro_fare_13 rfl (sh_Ro iv0) fl_Ro_41 rfl ?_
    refine J_goto (tgt := 23) d_Ro_fare_16 (by decide) ?_
    refine J_iadd (pc' := 24) d_Ro_fare_23 rfl ?_
    subst hf
    exact J_iret d_Ro_fare_24
theorem ct_Ro_fare (V : Vx) (l : Launch) (σ : Sg) (v0 : Nat) (v1 : Int32) (v2 : Int32) (iv0 : is_Ro v0) : Ct V l y_Ro_fare c_Ro_fare 3 (some .int) (k2_rm 0 0) [rf V v0, .int v1, .int v2] σ (some (.int (f_Ro_fare σ v0 v1 v2))) σ := Ct.ofJ (by decide +kernel) (Nat.le_of_ble_eq_true rfl) fun X _ => j_Ro_fare _ v0 v1 v2 iv0 rfl
def f_Ro_minutes (σ : Sg) (v0 : Nat) (v1 : Int32) : Int32 :=
  if v1 = 0 then 12 + (2 * (σ.1 v0 7)) else 12 + (2 * (σ.1 v0 8))
set_option maxHeartbeats 4000000 in
theorem j_Ro_minutes {V : Vx} {X : Xx} {r : Int32} (σ : Sg) (v0 : Nat) (v1 : Int32) (iv0 : is_Ro v0) (hf : f_Ro_minutes σ v0 v1 = r) : J V X (k2_rm 0 0) c_Ro_minutes R_Ro 2 (some .int) (Qr V X (some (.int r)) σ) σ 0 [(0, rf V v0), (1, .int v1)] [] := by
  unfold f_Ro_minutes at hf
  refine J_bipush (pc' := 2) (v := 12) d_Ro_minutes_0 rfl bc_12 ?_
  refine J_iconst (pc' := 3) (v := 2) d_Ro_minutes_2 rfl ic_2 ?_
  refine J_iload_n (pc' := 4) d_Ro_minutes_3 rfl 1 rfl ?_
  refine J_if_ne (pc' := 7) (tgt := 14) d_Ro_minutes_4 rfl (by decide) (fun hc1 => ?_) (fun hc1 => ?_)
  · have hf := brF hc1 hf
    refine J_aload_n (pc' := 15) d_Ro_minutes_14 rfl 0 rfl ?_
    refine J_getI (pc' := 18) d_Ro_minutes_15 rfl (sh_Ro iv0) fl_Ro_44 rfl ?_
    refine J_imul (pc' := 19) d_Ro_minutes_18 rfl ?_
    refine J_iadd (pc' := 20) d_Ro_minutes_19 rfl ?_
    subst hf
    exact J_iret d_Ro_minutes_20
  · have hf := brT hc1 hf
    refine J_aload_n (pc' := 8) d_Ro_minutes_7 rfl 0 rfl ?_
    refine J_getI (pc' := 11) d_Ro_minutes_8 rfl (sh_Ro iv0) fl_Ro_41 rfl ?_
    refine J_goto (tgt := 18) d_Ro_minutes_11 (by decide) ?_
    refine J_imul (pc' := 19) d_Ro_minutes_18 rfl ?_
    refine J_iadd (pc' := 20) d_Ro_minutes_19 rfl ?_
    subst hf
    exact J_iret d_Ro_minutes_20
theorem ct_Ro_minutes (V : Vx) (l : Launch) (σ : Sg) (v0 : Nat) (v1 : Int32) (iv0 : is_Ro v0) : Ct V l y_Ro_minutes c_Ro_minutes 2 (some .int) (k2_rm 0 0) [rf V v0, .int v1] σ (some (.int (f_Ro_minutes σ v0 v1))) σ := Ct.ofJ (by decide +kernel) (Nat.le_of_ble_eq_true rfl) fun X _ => j_Ro_minutes _ v0 v1 iv0 rfl
def f_GR_takes (σ : Sg) (v1 : Int32) (v2 : Int32) (v3 : Int32) (v4 : Int32) : Int32 :=
  if (f_Rs_has σ v1) = 0 then
    (-2)
  else
    if (f_GR_isBelow v2 2) = 0 then
      (-2)
    else
      if (f_GR_isBelow v3 10) = 0 then
        (-2)
      else
        if (f_GR_isBelow v4 2) = 0 then (-2) else if v4 = 0 then f_Ro_minutes σ (f_Rs_at v1) v2 else f_Ro_fare σ (f_Rs_at v1) v2 v3
set_option maxHeartbeats 4000000 in
theorem j_GR_takes {V : Vx} {X : Xx} {r : Int32} (σ : Sg) (v1 : Int32) (v2 : Int32) (v3 : Int32) (v4 : Int32) (hf : f_GR_takes σ v1 v2 v3 v4 = r) : J V X (k2_rm 2 43) c_GR_takes R_GR 6 (some .int) (Qr V X (some (.int r)) σ) σ 0 [(0, rf V 0), (1, .int v1), (2, .int v2), (3, .int v3), (4, .int v4)] [] := by
  unfold f_GR_takes at hf
  refine J_aload_n (pc' := 1) d_GR_takes_0 rfl 0 rfl ?_
  refine J_getR (pc' := 4) d_GR_takes_1 rfl sh_0 fl_GR_24 rfl ?_
  refine J_iload_n (pc' := 5) d_GR_takes_4 rfl 1 rfl ?_
  refine J_V (pc' := 8) (as := [.int v1]) (rest := []) (st' := [.int (f_Rs_has σ v1)]) d_GR_takes_5 rfl sh_5 rfl mv_GR_100 (ct_Rs_has V _ σ v1) rfl rfl ⟨Nat.le_of_ble_eq_true rfl, Nat.le_of_ble_eq_true rfl⟩ ⟨rfl, rfl⟩ (Nat.le_of_ble_eq_true rfl) rfl ?_
  refine J_if_eq (pc' := 11) (tgt := 37) d_GR_takes_8 rfl (by decide) (fun hc1 => ?_) (fun hc1 => ?_)
  · have hf := brT hc1 hf
    refine J_bipush (pc' := 39) (v := (-2)) d_GR_takes_37 rfl bc_m2 ?_
    subst hf
    exact J_iret d_GR_takes_39
  · have hf := brF hc1 hf
    refine J_iload_n (pc' := 12) d_GR_takes_11 rfl 2 rfl ?_
    refine J_iconst (pc' := 13) (v := 2) d_GR_takes_12 rfl ic_2 ?_
    refine J_S (pc' := 16) (as := [.int v2, .int 2]) (rest := []) (st' := [.int (f_GR_isBelow v2 2)]) d_GR_takes_13 rfl ms_GR_67 (ct_GR_isBelow V _ σ v2 2) rfl rfl ⟨Nat.le_of_ble_eq_true rfl, Nat.le_of_ble_eq_true rfl⟩ ⟨rfl, rfl⟩ (Nat.le_of_ble_eq_true rfl) rfl ?_
    refine J_if_eq (pc' := 19) (tgt := 37) d_GR_takes_16 rfl (by decide) (fun hc2 => ?_) (fun hc2 => ?_)
    · have hf := brT hc2 hf
      refine J_bipush (pc' := 39) (v := (-2)) d_GR_takes_37 rfl bc_m2 ?_
      subst hf
      exact J_iret d_GR_takes_39
    · have hf := brF hc2 hf
      refine J_iload_n (pc' := 20) d_GR_takes_19 rfl 3 rfl ?_
      refine J_bipush (pc' := 22) (v := 10) d_GR_takes_20 rfl bc_10 ?_
      refine J_S (pc' := 25) (as := [.int v3, .int 10]) (rest := []) (st' := [.int (f_GR_isBelow v3 10)]) d_GR_takes_22 rfl ms_GR_67 (ct_GR_isBelow V _ σ v3 10) rfl rfl ⟨Nat.le_of_ble_eq_true rfl, Nat.le_of_ble_eq_true rfl⟩ ⟨rfl, rfl⟩ (Nat.le_of_ble_eq_true rfl) rfl ?_
      refine J_if_eq (pc' := 28) (tgt := 37) d_GR_takes_25 rfl (by decide) (fun hc3 => ?_) (fun hc3 => ?_)
      · have hf := brT hc3 hf
        refine J_bipush (pc' := 39) (v := (-2)) d_GR_takes_37 rfl bc_m2 ?_
        subst hf
        exact J_iret d_GR_takes_39
      · have hf := brF hc3 hf
        refine J_iload (pc' := 30) d_GR_takes_28 rfl 4 rfl ?_
        refine J_iconst (pc' := 31) (v := 2) d_GR_takes_30 rfl ic_2 ?_
        refine J_S (pc' := 34) (as := [.int v4, .int 2]) (rest := []) (st' := [.int (f_GR_isBelow v4 2)]) d_GR_takes_31 rfl ms_GR_67 (ct_GR_isBelow V _ σ v4 2) rfl rfl ⟨Nat.le_of_ble_eq_true rfl, Nat.le_of_ble_eq_true rfl⟩ ⟨rfl, rfl⟩ (Nat.le_of_ble_eq_true rfl) rfl ?_
        refine J_if_ne (pc' := 37) (tgt := 40) d_GR_takes_34 rfl (by decide) (fun hc4 => ?_) (fun hc4 => ?_)
        · have hf := brF hc4 hf
          refine J_aload_n (pc' := 41) d_GR_takes_40 rfl 0 rfl ?_
          refine J_getR (pc' := 44) d_GR_takes_41 rfl sh_0 fl_GR_24 rfl ?_
          refine J_iload_n (pc' := 45) d_GR_takes_44 rfl 1 rfl ?_
          refine J_V (pc' := 48) (as := [.int v1]) (rest := []) (st' := [rf V (f_Rs_at v1)]) d_GR_takes_45 rfl sh_5 rfl mv_GR_104 (ct_Rs_at V _ σ v1) rfl rfl ⟨Nat.le_of_ble_eq_true rfl, Nat.le_of_ble_eq_true rfl⟩ ⟨rfl, rfl⟩ (Nat.le_of_ble_eq_true rfl) rfl ?_
          refine J_astore (pc' := 50) (lv' := [(5, rf V (f_Rs_at v1)), (0, rf V 0), (1, .int v1), (2, .int v2), (3, .int v3), (4, .int v4)]) d_GR_takes_48 rfl (by decide) rfl ?_
          refine J_iload (pc' := 52) d_GR_takes_50 rfl 5 rfl ?_
          refine J_if_ne (pc' := 55) (tgt := 64) d_GR_takes_52 rfl (by decide) (fun hc5 => ?_) (fun hc5 => ?_)
          · have hf := brF hc5 hf
            refine J_aload (pc' := 66) d_GR_takes_64 rfl 0 rfl ?_
            refine J_iload_n (pc' := 67) d_GR_takes_66 rfl 3 rfl ?_
            refine J_iload_n (pc' := 68) d_GR_takes_67 rfl 4 rfl ?_
            refine J_V (pc' := 71) (as := [.int v2, .int v3]) (rest := []) (st' := [.int (f_Ro_fare σ (f_Rs_at v1) v2 v3)]) d_GR_takes_68 rfl (sh_Ro (is_Rs_at v1)) rfl mv_GR_136 (ct_Ro_fare V _ σ (f_Rs_at v1) v2 v3 (is_Rs_at v1)) rfl rfl ⟨Nat.le_of_ble_eq_true rfl, Nat.le_of_ble_eq_true rfl⟩ ⟨rfl, rfl⟩ (Nat.le_of_ble_eq_true rfl) rfl ?_
            subst hf
            exact J_iret d_GR_takes_71
          · have hf := brT hc5 hf
            refine J_aload (pc' := 57) d_GR_takes_55 rfl 0 rfl ?_
            refine J_iload_n (pc' := 58) d_GR_takes_57 rfl 3 rfl ?_
            refine J_V (pc' := 61) (as := [.int v2]) (rest := []) (st' := [.int (f_Ro_minutes σ (f_Rs_at v1) v2)]) d_GR_takes_58 rfl (sh_Ro (is_Rs_at v1)) rfl mv_GR_133 (ct_Ro_minutes V _ σ (f_Rs_at v1) v2 (is_Rs_at v1)) rfl rfl ⟨Nat.le_of_ble_eq_true rfl, Nat.le_of_ble_eq_true rfl⟩ ⟨rfl, rfl⟩ (Nat.le_of_ble_eq_true rfl) rfl ?_
            refine J_goto (tgt := 71) d_GR_takes_61 (by decide) ?_
            subst hf
            exact J_iret d_GR_takes_71
        · have hf := brT hc4 hf
          refine J_bipush (pc' := 39) (v := (-2)) d_GR_takes_37 rfl bc_m2 ?_
          subst hf
          exact J_iret d_GR_takes_39
theorem ct_GR_takes (V : Vx) (l : Launch) (σ : Sg) (v1 : Int32) (v2 : Int32) (v3 : Int32) (v4 : Int32) : Ct V l y_GR_takes c_GR_takes 6 (some .int) (k2_rm 2 43) [rf V 0, .int v1, .int v2, .int v3, .int v4] σ (some (.int (f_GR_takes σ v1 v2 v3 v4))) σ := Ct.ofJ (by decide +kernel) (Nat.le_of_ble_eq_true rfl) fun X _ => j_GR_takes _ v1 v2 v3 v4 rfl
def f_GR_set (σ : Sg) (v1 : Int32) (v2 : Int32) : Option (Int32 × Sg) :=
  if (f_GR_isBelow v1 3) = 0 then
    some ((-2), σ)
  else
    if v2 < (tbL v1.toNatClampNeg) then
      some ((-2), σ)
    else
      if v2 ≤ (tbM v1.toNatClampNeg) then some (σ.1 17 v1.toNatClampNeg, (pI σ 17 v1.toNatClampNeg v2)) else some ((-2), σ)
set_option maxHeartbeats 4000000 in
theorem j_GR_set {V : Vx} {X : Xx} {r : Int32} {σ' : Sg} (σ : Sg) (v1 : Int32) (v2 : Int32) (hf : f_GR_set σ v1 v2 = some (r, σ')) : J V X (k2_rm 1 21) c_GR_set R_GR 4 (some .int) (Qr V X (some (.int r)) σ') σ 0 [(0, rf V 0), (1, .int v1), (2, .int v2)] [] := by
  unfold f_GR_set at hf
  refine J_iload_n (pc' := 1) d_GR_set_0 rfl 1 rfl ?_
  refine J_iconst (pc' := 2) (v := 3) d_GR_set_1 rfl ic_3 ?_
  refine J_S (pc' := 5) (as := [.int v1, .int 3]) (rest := []) (st' := [.int (f_GR_isBelow v1 3)]) d_GR_set_2 rfl ms_GR_67 (ct_GR_isBelow V _ σ v1 3) rfl rfl ⟨Nat.le_of_ble_eq_true rfl, Nat.le_of_ble_eq_true rfl⟩ ⟨rfl, rfl⟩ (Nat.le_of_ble_eq_true rfl) rfl ?_
  refine J_if_eq (pc' := 8) (tgt := 26) d_GR_set_5 rfl (by decide) (fun hc1 => ?_) (fun hc1 => ?_)
  · have hf := brT hc1 hf
    refine J_bipush (pc' := 28) (v := (-2)) d_GR_set_26 rfl bc_m2 ?_
    obtain ⟨rfl, rfl⟩ := resE hf
    exact J_iret d_GR_set_28
  · have hf := brF hc1 hf
    refine J_iload_n (pc' := 9) d_GR_set_8 rfl 2 rfl ?_
    refine J_gsL (pc' := 12) d_GR_set_9 rfl fs_GR_140 ?_
    refine J_iload_n (pc' := 13) d_GR_set_12 rfl 1 rfl ?_
    refine J_ialL (pc' := 14) d_GR_set_13 rfl (vin_b hc1) ?_
    refine J_icmp_lt (pc' := 17) (tgt := 26) d_GR_set_14 rfl (by decide) (fun hc2 => ?_) (fun hc2 => ?_)
    · have hf := brT hc2 hf
      refine J_bipush (pc' := 28) (v := (-2)) d_GR_set_26 rfl bc_m2 ?_
      obtain ⟨rfl, rfl⟩ := resE hf
      exact J_iret d_GR_set_28
    · have hf := brF hc2 hf
      refine J_iload_n (pc' := 18) d_GR_set_17 rfl 2 rfl ?_
      refine J_gsM (pc' := 21) d_GR_set_18 rfl fs_GR_143 ?_
      refine J_iload_n (pc' := 22) d_GR_set_21 rfl 1 rfl ?_
      refine J_ialM (pc' := 23) d_GR_set_22 rfl (vin_b hc1) ?_
      refine J_icmp_le (pc' := 26) (tgt := 29) d_GR_set_23 rfl (by decide) (fun hc3 => ?_) (fun hc3 => ?_)
      · have hf := brT hc3 hf
        refine J_aload_n (pc' := 30) d_GR_set_29 rfl 0 rfl ?_
        refine J_getR (pc' := 33) d_GR_set_30 rfl sh_0 fl_GR_28 rfl ?_
        refine J_iload_n (pc' := 34) d_GR_set_33 rfl 1 rfl ?_
        refine J_ial (pc' := 35) d_GR_set_34 rfl sh_17 (vin_b hc1) ?_
        refine J_istore_n (pc' := 36) (lv' := [(3, .int (σ.1 17 v1.toNatClampNeg)), (0, rf V 0), (1, .int v1), (2, .int v2)]) d_GR_set_35 rfl rfl (by decide) rfl ?_
        refine J_aload_n (pc' := 37) d_GR_set_36 rfl 1 rfl ?_
        refine J_getR (pc' := 40) d_GR_set_37 rfl sh_0 fl_GR_28 rfl ?_
        refine J_iload_n (pc' := 41) d_GR_set_40 rfl 2 rfl ?_
        refine J_iload_n (pc' := 42) d_GR_set_41 rfl 3 rfl ?_
        refine J_ias (pc' := 43) d_GR_set_42 rfl sh_17 (vin_b hc1) ?_
        refine J_iload_n (pc' := 44) d_GR_set_43 rfl 0 rfl ?_
        obtain ⟨rfl, rfl⟩ := resE hf
        exact J_iret d_GR_set_44
      · have hf := brF hc3 hf
        refine J_bipush (pc' := 28) (v := (-2)) d_GR_set_26 rfl bc_m2 ?_
        obtain ⟨rfl, rfl⟩ := resE hf
        exact J_iret d_GR_set_28
theorem ct_GR_set (V : Vx) (l : Launch) (σ : Sg) (v1 : Int32) (v2 : Int32) {r : Int32} {σ' : Sg} (hf : f_GR_set σ v1 v2 = some (r, σ')) : Ct V l y_GR_set c_GR_set 4 (some .int) (k2_rm 1 21) [rf V 0, .int v1, .int v2] σ (some (.int r)) σ' := Ct.ofJ (by decide +kernel) (Nat.le_of_ble_eq_true rfl) fun X _ => j_GR_set _ v1 v2 hf
def f_GR_mayGo (v0 : Int32) (v1 : Int32) (v2 : Int32) (v3 : Int32) : Int32 :=
  if (f_GR_isBelow v0 8) = 0 then
    0
  else
    if (f_GR_isBelow v1 2) = 0 then 0 else if (f_GR_isBelow v2 200) = 0 then 0 else if (f_GR_isBelow v3 10) = 0 then 0 else 1
set_option maxHeartbeats 4000000 in
theorem j_GR_mayGo {V : Vx} {X : Xx} {r : Int32} (σ : Sg) (v0 : Int32) (v1 : Int32) (v2 : Int32) (v3 : Int32) (hf : f_GR_mayGo v0 v1 v2 v3 = r) : J V X (k2_rm 1 21) c_GR_mayGo R_GR 4 (some .boolean) (Qr V X (some (.int r)) σ) σ 0 [(0, .int v0), (1, .int v1), (2, .int v2), (3, .int v3)] [] := by
  unfold f_GR_mayGo at hf
  refine J_iload_n (pc' := 1) d_GR_mayGo_0 rfl 0 rfl ?_
  refine J_bipush (pc' := 3) (v := 8) d_GR_mayGo_1 rfl bc_8 ?_
  refine J_S (pc' := 6) (as := [.int v0, .int 8]) (rest := []) (st' := [.int (f_GR_isBelow v0 8)]) d_GR_mayGo_3 rfl ms_GR_67 (ct_GR_isBelow V _ σ v0 8) rfl rfl ⟨Nat.le_of_ble_eq_true rfl, Nat.le_of_ble_eq_true rfl⟩ ⟨rfl, rfl⟩ (Nat.le_of_ble_eq_true rfl) rfl ?_
  refine J_if_eq (pc' := 9) (tgt := 40) d_GR_mayGo_6 rfl (by decide) (fun hc1 => ?_) (fun hc1 => ?_)
  · have hf := brT hc1 hf
    refine J_iconst (pc' := 41) (v := 0) d_GR_mayGo_40 rfl ic_0 ?_
    subst hf
    exact J_zret (by decide) d_GR_mayGo_41
  · have hf := brF hc1 hf
    refine J_iload_n (pc' := 10) d_GR_mayGo_9 rfl 1 rfl ?_
    refine J_iconst (pc' := 11) (v := 2) d_GR_mayGo_10 rfl ic_2 ?_
    refine J_S (pc' := 14) (as := [.int v1, .int 2]) (rest := []) (st' := [.int (f_GR_isBelow v1 2)]) d_GR_mayGo_11 rfl ms_GR_67 (ct_GR_isBelow V _ σ v1 2) rfl rfl ⟨Nat.le_of_ble_eq_true rfl, Nat.le_of_ble_eq_true rfl⟩ ⟨rfl, rfl⟩ (Nat.le_of_ble_eq_true rfl) rfl ?_
    refine J_if_eq (pc' := 17) (tgt := 40) d_GR_mayGo_14 rfl (by decide) (fun hc2 => ?_) (fun hc2 => ?_)
    · have hf := brT hc2 hf
      refine J_iconst (pc' := 41) (v := 0) d_GR_mayGo_40 rfl ic_0 ?_
      subst hf
      exact J_zret (by decide) d_GR_mayGo_41
    · have hf := brF hc2 hf
      refine J_iload_n (pc' := 18) d_GR_mayGo_17 rfl 2 rfl ?_
      refine J_sipush (pc' := 21) (v := 200) d_GR_mayGo_18 rfl sc_200 ?_
      refine J_S (pc' := 24) (as := [.int v2, .int 200]) (rest := []) (st' := [.int (f_GR_isBelow v2 200)]) d_GR_mayGo_21 rfl ms_GR_67 (ct_GR_isBelow V _ σ v2 200) rfl rfl ⟨Nat.le_of_ble_eq_true rfl, Nat.le_of_ble_eq_true rfl⟩ ⟨rfl, rfl⟩ (Nat.le_of_ble_eq_true rfl) rfl ?_
      refine J_if_eq (pc' := 27) (tgt := 40) d_GR_mayGo_24 rfl (by decide) (fun hc3 => ?_) (fun hc3 => ?_)
      · have hf := brT hc3 hf
        refine J_iconst (pc' := 41) (v := 0) d_GR_mayGo_40 rfl ic_0 ?_
        subst hf
        exact J_zret (by decide) d_GR_mayGo_41
      · have hf := brF hc3 hf
        refine J_iload_n (pc' := 28) d_GR_mayGo_27 rfl 3 rfl ?_
        refine J_bipush (pc' := 30) (v := 10) d_GR_mayGo_28 rfl bc_10 ?_
        refine J_S (pc' := 33) (as := [.int v3, .int 10]) (rest := []) (st' := [.int (f_GR_isBelow v3 10)]) d_GR_mayGo_30 rfl ms_GR_67 (ct_GR_isBelow V _ σ v3 10) rfl rfl ⟨Nat.le_of_ble_eq_true rfl, Nat.le_of_ble_eq_true rfl⟩ ⟨rfl, rfl⟩ (Nat.le_of_ble_eq_true rfl) rfl ?_
        refine J_if_eq (pc' := 36) (tgt := 40) d_GR_mayGo_33 rfl (by decide) (fun hc4 => ?_) (fun hc4 => ?_)
        · have hf := brT hc4 hf
          refine J_iconst (pc' := 41) (v := 0) d_GR_mayGo_40 rfl ic_0 ?_
          subst hf
          exact J_zret (by decide) d_GR_mayGo_41
        · have hf := brF hc4 hf
          refine J_iconst (pc' := 37) (v := 1) d_GR_mayGo_36 rfl ic_1 ?_
          refine J_goto (tgt := 41) d_GR_mayGo_37 (by decide) ?_
          subst hf
          exact J_zret (by decide) d_GR_mayGo_41
theorem ct_GR_mayGo (V : Vx) (l : Launch) (σ : Sg) (v0 : Int32) (v1 : Int32) (v2 : Int32) (v3 : Int32) : Ct V l y_GR_mayGo c_GR_mayGo 4 (some .boolean) (k2_rm 1 21) [.int v0, .int v1, .int v2, .int v3] σ (some (.int (f_GR_mayGo v0 v1 v2 v3))) σ := Ct.ofJ (by decide +kernel) (Nat.le_of_ble_eq_true rfl) fun X _ => j_GR_mayGo _ v0 v1 v2 v3 rfl
def f_Ts_isFull (σ : Sg)  : Int32 :=
  if (σ.1 18 2) < 20 then 0 else 1
set_option maxHeartbeats 4000000 in
theorem j_Ts_isFull {V : Vx} {X : Xx} {r : Int32} (σ : Sg) (hf : f_Ts_isFull σ = r) : J V X (k2_rm 0 0) c_Ts_isFull R_Ts 1 (some .boolean) (Qr V X (some (.int r)) σ) σ 0 [(0, rf V 18)] [] := by
  unfold f_Ts_isFull at hf
  refine J_aload_n (pc' := 1) d_Ts_isFull_0 rfl 0 rfl ?_
  refine J_getI (pc' := 4) d_Ts_isFull_1 rfl sh_18 fl_Ts_22 rfl ?_
  refine J_bipush (pc' := 6) (v := 20) d_Ts_isFull_4 rfl bc_20 ?_
  refine J_icmp_lt (pc' := 9) (tgt := 13) d_Ts_isFull_6 rfl (by decide) (fun hc1 => ?_) (fun hc1 => ?_)
  · have hf := brT hc1 hf
    refine J_iconst (pc' := 14) (v := 0) d_Ts_isFull_13 rfl ic_0 ?_
    subst hf
    exact J_zret (by decide) d_Ts_isFull_14
  · have hf := brF hc1 hf
    refine J_iconst (pc' := 10) (v := 1) d_Ts_isFull_9 rfl ic_1 ?_
    refine J_goto (tgt := 14) d_Ts_isFull_10 (by decide) ?_
    subst hf
    exact J_zret (by decide) d_Ts_isFull_14
theorem ct_Ts_isFull (V : Vx) (l : Launch) (σ : Sg) : Ct V l y_Ts_isFull c_Ts_isFull 1 (some .boolean) (k2_rm 0 0) [rf V 18] σ (some (.int (f_Ts_isFull σ))) σ := Ct.ofJ (by decide +kernel) (Nat.le_of_ble_eq_true rfl) fun X _ => j_Ts_isFull _  rfl
def f_Ts_at (v1 : Int32) : Nat :=
  if (f_GR_isBelow v1 20) = 0 then 20 else 21 + v1.toNatClampNeg
set_option maxHeartbeats 4000000 in
theorem j_Ts_at {V : Vx} {X : Xx} {r : Nat} (σ : Sg) (v1 : Int32) (hf : f_Ts_at v1 = r) : J V X (k2_rm 1 21) c_Ts_at R_Ts 3 (some (.object "GorgeRopes$Trip")) (Qr V X (some (rf V r)) σ) σ 0 [(0, rf V 18), (1, .int v1)] [] := by
  unfold f_Ts_at at hf
  refine J_iload_n (pc' := 1) d_Ts_at_0 rfl 1 rfl ?_
  refine J_bipush (pc' := 3) (v := 20) d_Ts_at_1 rfl bc_20 ?_
  refine J_S (pc' := 6) (as := [.int v1, .int 20]) (rest := []) (st' := [.int (f_GR_isBelow v1 20)]) d_Ts_at_3 rfl ms_Ts_26 (ct_GR_isBelow V _ σ v1 20) rfl rfl ⟨Nat.le_of_ble_eq_true rfl, Nat.le_of_ble_eq_true rfl⟩ ⟨rfl, rfl⟩ (Nat.le_of_ble_eq_true rfl) rfl ?_
  refine J_if_eq (pc' := 9) (tgt := 18) d_Ts_at_6 rfl (by decide) (fun hc1 => ?_) (fun hc1 => ?_)
  · have hf := brT hc1 hf
    refine J_null (pc' := 19) d_Ts_at_18 rfl ?_
    refine J_astoreN_n (pc' := 20) (lv' := [(2, .null), (0, rf V 18), (1, .int v1)]) d_Ts_at_19 rfl rfl (by decide) rfl ?_
    refine J_aloadN_n (pc' := 21) d_Ts_at_20 rfl 0 rfl ?_
    refine J_ifnnN (pc' := 24) d_Ts_at_21 rfl ?_
    refine J_aload_n (pc' := 25) d_Ts_at_24 rfl 1 rfl ?_
    refine J_getR (pc' := 28) d_Ts_at_25 rfl sh_18 fl_Ts_18 rfl ?_
    refine J_goto (tgt := 32) d_Ts_at_28 (by decide) ?_
    subst hf
    exact J_aret d_Ts_at_32
  · have hf := brF hc1 hf
    refine J_aload_n (pc' := 10) d_Ts_at_9 rfl 0 rfl ?_
    refine J_getR (pc' := 13) d_Ts_at_10 rfl sh_18 fl_Ts_11 rfl ?_
    refine J_iload_n (pc' := 14) d_Ts_at_13 rfl 1 rfl ?_
    refine J_aal3 (pc' := 15) d_Ts_at_14 rfl sh_19 (vin_b hc1) ?_
    refine J_goto (tgt := 19) d_Ts_at_15 (by decide) ?_
    refine J_astore_n (pc' := 20) (lv' := [(2, rf V (21 + v1.toNatClampNeg)), (0, rf V 18), (1, .int v1)]) d_Ts_at_19 rfl rfl (by decide) rfl ?_
    refine J_aload_n (pc' := 21) d_Ts_at_20 rfl 0 rfl ?_
    refine J_ifnn (tgt := 31) d_Ts_at_21 (by decide) ?_
    refine J_aload_n (pc' := 32) d_Ts_at_31 rfl 0 rfl ?_
    subst hf
    exact J_aret d_Ts_at_32
theorem ct_Ts_at (V : Vx) (l : Launch) (σ : Sg) (v1 : Int32) : Ct V l y_Ts_at c_Ts_at 3 (some (.object "GorgeRopes$Trip")) (k2_rm 1 21) [rf V 18, .int v1] σ (some (rf V (f_Ts_at v1))) σ := Ct.ofJ (by decide +kernel) (Nat.le_of_ble_eq_true rfl) fun X _ => j_Ts_at _ v1 rfl
theorem is_Ts_at (v1 : Int32) : is_Tr (f_Ts_at v1) := by
  unfold f_Ts_at is_Tr
  split
  · omega
  · have := bel_lt (m := 20) (by assumption); omega
def f_Ts_append (σ : Sg) (v1 : Int32) (v2 : Int32) (v3 : Int32) (v4 : Int32) (v5 : Int32) : Option Sg :=
  if (f_Ts_isFull σ) = 0 then
    some (pI (pI (pI (pI (pI (pI σ (f_Ts_at (σ.1 18 2)) 0 v1) (f_Ts_at (σ.1 18 2)) 1 v2) (f_Ts_at (σ.1 18 2)) 2 v3) (f_Ts_at (σ.1 18 2)) 3 v4) (f_Ts_at (σ.1 18 2)) 4 v5) 18 2 (((pI (pI (pI (pI (pI σ (f_Ts_at (σ.1 18 2)) 0 v1) (f_Ts_at (σ.1 18 2)) 1 v2) (f_Ts_at (σ.1 18 2)) 2 v3) (f_Ts_at (σ.1 18 2)) 3 v4) (f_Ts_at (σ.1 18 2)) 4 v5).1 18 2) + 1))
  else
    some σ
set_option maxHeartbeats 4000000 in
theorem j_Ts_append {V : Vx} {X : Xx} {σ' : Sg} (σ : Sg) (v1 : Int32) (v2 : Int32) (v3 : Int32) (v4 : Int32) (v5 : Int32) (hf : f_Ts_append σ v1 v2 v3 v4 v5 = some σ') : J V X (k2_rm 2 43) c_Ts_append R_Ts 7 none (Qr V X none σ') σ 0 [(0, rf V 18), (1, .int v1), (2, .int v2), (3, .int v3), (4, .int v4), (5, .int v5)] [] := by
  unfold f_Ts_append at hf
  refine J_aload_n (pc' := 1) d_Ts_append_0 rfl 0 rfl ?_
  refine J_V (pc' := 4) (as := []) (rest := []) (st' := [.int (f_Ts_isFull σ)]) d_Ts_append_1 rfl sh_18 rfl mv_Ts_30 (ct_Ts_isFull V _ σ) rfl rfl ⟨Nat.le_of_ble_eq_true rfl, Nat.le_of_ble_eq_true rfl⟩ ⟨rfl, rfl⟩ (Nat.le_of_ble_eq_true rfl) rfl ?_
  refine J_if_eq (pc' := 7) (tgt := 8) d_Ts_append_4 rfl (by decide) (fun hc1 => ?_) (fun hc1 => ?_)
  · have hf := brT hc1 hf
    refine J_aload_n (pc' := 9) d_Ts_append_8 rfl 0 rfl ?_
    refine J_aload_n (pc' := 10) d_Ts_append_9 rfl 0 rfl ?_
    refine J_getI (pc' := 13) d_Ts_append_10 rfl sh_18 fl_Ts_22 rfl ?_
    refine J_V (pc' := 16) (as := [.int (σ.1 18 2)]) (rest := []) (st' := [rf V (f_Ts_at (σ.1 18 2))]) d_Ts_append_13 rfl sh_18 rfl mv_Ts_34 (ct_Ts_at V _ σ (σ.1 18 2)) rfl rfl ⟨Nat.le_of_ble_eq_true rfl, Nat.le_of_ble_eq_true rfl⟩ ⟨rfl, rfl⟩ (Nat.le_of_ble_eq_true rfl) rfl ?_
    refine J_astore (pc' := 18) (lv' := [(6, rf V (f_Ts_at (σ.1 18 2))), (0, rf V 18), (1, .int v1), (2, .int v2), (3, .int v3), (4, .int v4), (5, .int v5)]) d_Ts_append_16 rfl (by decide) rfl ?_
    refine J_aload (pc' := 20) d_Ts_append_18 rfl 0 rfl ?_
    refine J_iload_n (pc' := 21) d_Ts_append_20 rfl 2 rfl ?_
    refine J_putI (pc' := 24) d_Ts_append_21 rfl (sh_Tr (is_Ts_at (σ.1 18 2))) fp_Ts_38 rfl ?_
    refine J_aload (pc' := 26) d_Ts_append_24 rfl 0 rfl ?_
    refine J_iload_n (pc' := 27) d_Ts_append_26 rfl 3 rfl ?_
    refine J_putI (pc' := 30) d_Ts_append_27 rfl (sh_Tr (is_Ts_at (σ.1 18 2))) fp_Ts_41 rfl ?_
    refine J_aload (pc' := 32) d_Ts_append_30 rfl 0 rfl ?_
    refine J_iload_n (pc' := 33) d_Ts_append_32 rfl 4 rfl ?_
    refine J_putI (pc' := 36) d_Ts_append_33 rfl (sh_Tr (is_Ts_at (σ.1 18 2))) fp_Ts_44 rfl ?_
    refine J_aload (pc' := 38) d_Ts_append_36 rfl 0 rfl ?_
    refine J_iload (pc' := 40) d_Ts_append_38 rfl 5 rfl ?_
    refine J_putI (pc' := 43) d_Ts_append_40 rfl (sh_Tr (is_Ts_at (σ.1 18 2))) fp_Ts_47 rfl ?_
    refine J_aload (pc' := 45) d_Ts_append_43 rfl 0 rfl ?_
    refine J_iload (pc' := 47) d_Ts_append_45 rfl 6 rfl ?_
    refine J_putI (pc' := 50) d_Ts_append_47 rfl (sh_Tr (is_Ts_at (σ.1 18 2))) fp_Ts_50 rfl ?_
    refine J_aload_n (pc' := 51) d_Ts_append_50 rfl 1 rfl ?_
    refine J_dup (pc' := 52) d_Ts_append_51 rfl rfl ?_
    refine J_getI (pc' := 55) d_Ts_append_52 rfl sh_18 fl_Ts_22 rfl ?_
    refine J_iconst (pc' := 56) (v := 1) d_Ts_append_55 rfl ic_1 ?_
    refine J_iadd (pc' := 57) d_Ts_append_56 rfl ?_
    refine J_putI (pc' := 60) d_Ts_append_57 rfl sh_18 fp_Ts_22 rfl ?_
    obtain rfl := Option.some.inj hf
    exact J_vret d_Ts_append_60
  · have hf := brF hc1 hf
    obtain rfl := Option.some.inj hf
    exact J_vret d_Ts_append_7
theorem ct_Ts_append (V : Vx) (l : Launch) (σ : Sg) (v1 : Int32) (v2 : Int32) (v3 : Int32) (v4 : Int32) (v5 : Int32) {σ' : Sg} (hf : f_Ts_append σ v1 v2 v3 v4 v5 = some σ') : Ct V l y_Ts_append c_Ts_append 7 none (k2_rm 2 43) [rf V 18, .int v1, .int v2, .int v3, .int v4, .int v5] σ none σ' := Ct.ofJ (by decide +kernel) (Nat.le_of_ble_eq_true rfl) fun X _ => j_Ts_append _ v1 v2 v3 v4 v5 hf
def f_GR_trip (σ : Sg) (v1 : Int32) (v2 : Int32) (v3 : Int32) (v4 : Int32) (v5 : Int32) : Option (Int32 × Sg) :=
  if (f_GR_mayGo v1 v2 v3 v4) = 0 then
    some ((-2), σ)
  else
    if (f_GR_isBelow v5 5) = 0 then
      some ((-2), σ)
    else
      if (f_Ts_isFull σ) = 0 then
        (f_Ts_append σ v1 v2 v3 v4 v5).bind fun σ5 =>
          some ((σ5.1 18 2) - 1, σ5)
      else
        some ((-4), σ)
set_option maxHeartbeats 4000000 in
theorem j_GR_trip {V : Vx} {X : Xx} {r : Int32} {σ' : Sg} (σ : Sg) (v1 : Int32) (v2 : Int32) (v3 : Int32) (v4 : Int32) (v5 : Int32) (hf : f_GR_trip σ v1 v2 v3 v4 v5 = some (r, σ')) : J V X (k2_rm 3 69) c_GR_trip R_GR 6 (some .int) (Qr V X (some (.int r)) σ') σ 0 [(0, rf V 0), (1, .int v1), (2, .int v2), (3, .int v3), (4, .int v4), (5, .int v5)] [] := by
  unfold f_GR_trip at hf
  refine J_iload_n (pc' := 1) d_GR_trip_0 rfl 1 rfl ?_
  refine J_iload_n (pc' := 2) d_GR_trip_1 rfl 2 rfl ?_
  refine J_iload_n (pc' := 3) d_GR_trip_2 rfl 3 rfl ?_
  refine J_iload (pc' := 5) d_GR_trip_3 rfl 4 rfl ?_
  refine J_S (pc' := 8) (as := [.int v1, .int v2, .int v3, .int v4]) (rest := []) (st' := [.int (f_GR_mayGo v1 v2 v3 v4)]) d_GR_trip_5 rfl ms_GR_146 (ct_GR_mayGo V _ σ v1 v2 v3 v4) rfl rfl ⟨Nat.le_of_ble_eq_true rfl, Nat.le_of_ble_eq_true rfl⟩ ⟨rfl, rfl⟩ (Nat.le_of_ble_eq_true rfl) rfl ?_
  refine J_if_eq (pc' := 11) (tgt := 20) d_GR_trip_8 rfl (by decide) (fun hc1 => ?_) (fun hc1 => ?_)
  · have hf := brT hc1 hf
    refine J_bipush (pc' := 22) (v := (-2)) d_GR_trip_20 rfl bc_m2 ?_
    obtain ⟨rfl, rfl⟩ := resE hf
    exact J_iret d_GR_trip_22
  · have hf := brF hc1 hf
    refine J_iload (pc' := 13) d_GR_trip_11 rfl 5 rfl ?_
    refine J_iconst (pc' := 14) (v := 5) d_GR_trip_13 rfl ic_5 ?_
    refine J_S (pc' := 17) (as := [.int v5, .int 5]) (rest := []) (st' := [.int (f_GR_isBelow v5 5)]) d_GR_trip_14 rfl ms_GR_67 (ct_GR_isBelow V _ σ v5 5) rfl rfl ⟨Nat.le_of_ble_eq_true rfl, Nat.le_of_ble_eq_true rfl⟩ ⟨rfl, rfl⟩ (Nat.le_of_ble_eq_true rfl) rfl ?_
    refine J_if_ne (pc' := 20) (tgt := 23) d_GR_trip_17 rfl (by decide) (fun hc2 => ?_) (fun hc2 => ?_)
    · have hf := brF hc2 hf
      refine J_aload_n (pc' := 24) d_GR_trip_23 rfl 0 rfl ?_
      refine J_getR (pc' := 27) d_GR_trip_24 rfl sh_0 fl_GR_35 rfl ?_
      refine J_V (pc' := 30) (as := []) (rest := []) (st' := [.int (f_Ts_isFull σ)]) d_GR_trip_27 rfl sh_18 rfl mv_GR_150 (ct_Ts_isFull V _ σ) rfl rfl ⟨Nat.le_of_ble_eq_true rfl, Nat.le_of_ble_eq_true rfl⟩ ⟨rfl, rfl⟩ (Nat.le_of_ble_eq_true rfl) rfl ?_
      refine J_if_eq (pc' := 33) (tgt := 36) d_GR_trip_30 rfl (by decide) (fun hc3 => ?_) (fun hc3 => ?_)
      · have hf := brT hc3 hf
        refine J_aload_n (pc' := 37) d_GR_trip_36 rfl 0 rfl ?_
        refine J_getR (pc' := 40) d_GR_trip_37 rfl sh_0 fl_GR_35 rfl ?_
        refine J_iload_n (pc' := 41) d_GR_trip_40 rfl 1 rfl ?_
        refine J_iload_n (pc' := 42) d_GR_trip_41 rfl 2 rfl ?_
        refine J_iload_n (pc' := 43) d_GR_trip_42 rfl 3 rfl ?_
        refine J_iload (pc' := 45) d_GR_trip_43 rfl 4 rfl ?_
        refine J_iload (pc' := 47) d_GR_trip_45 rfl 5 rfl ?_
        obtain ⟨σ5, hq4, hf⟩ := bpE hf
        refine J_V (pc' := 50) (as := [.int v1, .int v2, .int v3, .int v4, .int v5]) (rest := []) (st' := []) d_GR_trip_47 rfl sh_18 rfl mv_GR_151 (ct_Ts_append V _ σ v1 v2 v3 v4 v5 hq4) rfl rfl ⟨Nat.le_of_ble_eq_true rfl, Nat.le_of_ble_eq_true rfl⟩ ⟨rfl, rfl⟩ (Nat.le_of_ble_eq_true rfl) rfl ?_
        refine J_aload_n (pc' := 51) d_GR_trip_50 rfl 0 rfl ?_
        refine J_getR (pc' := 54) d_GR_trip_51 rfl sh_0 fl_GR_35 rfl ?_
        refine J_getI (pc' := 57) d_GR_trip_54 rfl sh_18 fl_GR_154 rfl ?_
        refine J_iconst (pc' := 58) (v := 1) d_GR_trip_57 rfl ic_1 ?_
        refine J_isub (pc' := 59) d_GR_trip_58 rfl ?_
        obtain ⟨rfl, rfl⟩ := resE hf
        exact J_iret d_GR_trip_59
      · have hf := brF hc3 hf
        refine J_bipush (pc' := 35) (v := (-4)) d_GR_trip_33 rfl bc_m4 ?_
        obtain ⟨rfl, rfl⟩ := resE hf
        exact J_iret d_GR_trip_35
    · have hf := brT hc2 hf
      refine J_bipush (pc' := 22) (v := (-2)) d_GR_trip_20 rfl bc_m2 ?_
      obtain ⟨rfl, rfl⟩ := resE hf
      exact J_iret d_GR_trip_22
theorem ct_GR_trip (V : Vx) (l : Launch) (σ : Sg) (v1 : Int32) (v2 : Int32) (v3 : Int32) (v4 : Int32) (v5 : Int32) {r : Int32} {σ' : Sg} (hf : f_GR_trip σ v1 v2 v3 v4 v5 = some (r, σ')) : Ct V l y_GR_trip c_GR_trip 6 (some .int) (k2_rm 3 69) [rf V 0, .int v1, .int v2, .int v3, .int v4, .int v5] σ (some (.int r)) σ' := Ct.ofJ (by decide +kernel) (Nat.le_of_ble_eq_true rfl) fun X _ => j_GR_trip _ v1 v2 v3 v4 v5 hf
def f_Ss_at (v1 : Int32) : Nat :=
  if (f_GR_isBelow v1 4) = 0 then 56 else 58 + 2 * v1.toNatClampNeg
set_option maxHeartbeats 4000000 in
theorem j_Ss_at {V : Vx} {X : Xx} {r : Nat} (σ : Sg) (v1 : Int32) (hf : f_Ss_at v1 = r) : J V X (k2_rm 1 21) c_Ss_at R_Ss 3 (some (.object "GorgeRopes$Sheet")) (Qr V X (some (rf V r)) σ) σ 0 [(0, rf V 54), (1, .int v1)] [] := by
  unfold f_Ss_at at hf
  refine J_iload_n (pc' := 1) d_Ss_at_0 rfl 1 rfl ?_
  refine J_iconst (pc' := 2) (v := 4) d_Ss_at_1 rfl ic_4 ?_
  refine J_S (pc' := 5) (as := [.int v1, .int 4]) (rest := []) (st' := [.int (f_GR_isBelow v1 4)]) d_Ss_at_2 rfl ms_Ss_22 (ct_GR_isBelow V _ σ v1 4) rfl rfl ⟨Nat.le_of_ble_eq_true rfl, Nat.le_of_ble_eq_true rfl⟩ ⟨rfl, rfl⟩ (Nat.le_of_ble_eq_true rfl) rfl ?_
  refine J_if_eq (pc' := 8) (tgt := 17) d_Ss_at_5 rfl (by decide) (fun hc1 => ?_) (fun hc1 => ?_)
  · have hf := brT hc1 hf
    refine J_null (pc' := 18) d_Ss_at_17 rfl ?_
    refine J_astoreN_n (pc' := 19) (lv' := [(2, .null), (0, rf V 54), (1, .int v1)]) d_Ss_at_18 rfl rfl (by decide) rfl ?_
    refine J_aloadN_n (pc' := 20) d_Ss_at_19 rfl 0 rfl ?_
    refine J_ifnnN (pc' := 23) d_Ss_at_20 rfl ?_
    refine J_aload_n (pc' := 24) d_Ss_at_23 rfl 1 rfl ?_
    refine J_getR (pc' := 27) d_Ss_at_24 rfl sh_54 fl_Ss_18 rfl ?_
    refine J_goto (tgt := 31) d_Ss_at_27 (by decide) ?_
    subst hf
    exact J_aret d_Ss_at_31
  · have hf := brF hc1 hf
    refine J_aload_n (pc' := 9) d_Ss_at_8 rfl 0 rfl ?_
    refine J_getR (pc' := 12) d_Ss_at_9 rfl sh_54 fl_Ss_11 rfl ?_
    refine J_iload_n (pc' := 13) d_Ss_at_12 rfl 1 rfl ?_
    refine J_aal4 (pc' := 14) d_Ss_at_13 rfl sh_55 (vin_b hc1) ?_
    refine J_goto (tgt := 18) d_Ss_at_14 (by decide) ?_
    refine J_astore_n (pc' := 19) (lv' := [(2, rf V (58 + 2 * v1.toNatClampNeg)), (0, rf V 54), (1, .int v1)]) d_Ss_at_18 rfl rfl (by decide) rfl ?_
    refine J_aload_n (pc' := 20) d_Ss_at_19 rfl 0 rfl ?_
    refine J_ifnn (tgt := 30) d_Ss_at_20 (by decide) ?_
    refine J_aload_n (pc' := 31) d_Ss_at_30 rfl 0 rfl ?_
    subst hf
    exact J_aret d_Ss_at_31
theorem ct_Ss_at (V : Vx) (l : Launch) (σ : Sg) (v1 : Int32) : Ct V l y_Ss_at c_Ss_at 3 (some (.object "GorgeRopes$Sheet")) (k2_rm 1 21) [rf V 54, .int v1] σ (some (rf V (f_Ss_at v1))) σ := Ct.ofJ (by decide +kernel) (Nat.le_of_ble_eq_true rfl) fun X _ => j_Ss_at _ v1 rfl
theorem is_Ss_at (v1 : Int32) : is_Sh (f_Ss_at v1) := by
  unfold f_Ss_at is_Sh
  split
  · omega
  · have := bel_lt (m := 4) (by assumption); omega
def f_Sh_isLost (σ : Sg) (v0 : Nat) : Int32 :=
  if (σ.1 v0 1) = (-1) then 1 else 0
set_option maxHeartbeats 4000000 in
theorem j_Sh_isLost {V : Vx} {X : Xx} {r : Int32} (σ : Sg) (v0 : Nat) (iv0 : is_Sh v0) (hf : f_Sh_isLost σ v0 = r) : J V X (k2_rm 0 0) c_Sh_isLost R_Sh 1 (some .boolean) (Qr V X (some (.int r)) σ) σ 0 [(0, rf V v0)] [] := by
  unfold f_Sh_isLost at hf
  refine J_aload_n (pc' := 1) d_Sh_isLost_0 rfl 0 rfl ?_
  refine J_getI (pc' := 4) d_Sh_isLost_1 rfl (sh_Sh iv0) fl_Sh_15 rfl ?_
  refine J_iconst (pc' := 5) (v := (-1)) d_Sh_isLost_4 rfl ic_m1 ?_
  refine J_icmp_ne (pc' := 8) (tgt := 12) d_Sh_isLost_5 rfl (by decide) (fun hc1 => ?_) (fun hc1 => ?_)
  · have hf := brF hc1 hf
    refine J_iconst (pc' := 13) (v := 0) d_Sh_isLost_12 rfl ic_0 ?_
    subst hf
    exact J_zret (by decide) d_Sh_isLost_13
  · have hf := brT hc1 hf
    refine J_iconst (pc' := 9) (v := 1) d_Sh_isLost_8 rfl ic_1 ?_
    refine J_goto (tgt := 13) d_Sh_isLost_9 (by decide) ?_
    subst hf
    exact J_zret (by decide) d_Sh_isLost_13
theorem ct_Sh_isLost (V : Vx) (l : Launch) (σ : Sg) (v0 : Nat) (iv0 : is_Sh v0) : Ct V l y_Sh_isLost c_Sh_isLost 1 (some .boolean) (k2_rm 0 0) [rf V v0] σ (some (.int (f_Sh_isLost σ v0))) σ := Ct.ofJ (by decide +kernel) (Nat.le_of_ble_eq_true rfl) fun X _ => j_Sh_isLost _ v0 iv0 rfl
