theorem d_GR_lose_0 : decode c_GR_lose 0 = .ok (.iload_n 1, 1) := by decide +kernel
theorem d_GR_lose_1 : decode c_GR_lose 1 = .ok (.iconst 4, 1) := by decide +kernel
theorem d_GR_lose_2 : decode c_GR_lose 2 = .ok (.invokestatic 67, 3) := by decide +kernel
theorem d_GR_lose_5 : decode c_GR_lose 5 = .ok (.ifCond .ne 6, 3) := by decide +kernel
theorem d_GR_lose_8 : decode c_GR_lose 8 = .ok (.bipush (-2), 2) := by decide +kernel
theorem d_GR_lose_10 : decode c_GR_lose 10 = .ok (.ireturn, 1) := by decide +kernel
theorem d_GR_lose_11 : decode c_GR_lose 11 = .ok (.aload_n 0, 1) := by decide +kernel
theorem d_GR_lose_12 : decode c_GR_lose 12 = .ok (.getfield 63, 3) := by decide +kernel
theorem d_GR_lose_15 : decode c_GR_lose 15 = .ok (.iload_n 1, 1) := by decide +kernel
theorem d_GR_lose_16 : decode c_GR_lose 16 = .ok (.invokevirtual 157, 3) := by decide +kernel
theorem d_GR_lose_19 : decode c_GR_lose 19 = .ok (.astore_n 2, 1) := by decide +kernel
theorem d_GR_lose_20 : decode c_GR_lose 20 = .ok (.aload_n 2, 1) := by decide +kernel
theorem d_GR_lose_21 : decode c_GR_lose 21 = .ok (.invokevirtual 160, 3) := by decide +kernel
theorem d_GR_lose_24 : decode c_GR_lose 24 = .ok (.ifCond .eq 12, 3) := by decide +kernel
theorem d_GR_lose_27 : decode c_GR_lose 27 = .ok (.aload_n 0, 1) := by decide +kernel
theorem d_GR_lose_28 : decode c_GR_lose 28 = .ok (.getfield 63, 3) := by decide +kernel
theorem d_GR_lose_31 : decode c_GR_lose 31 = .ok (.iconst 1, 1) := by decide +kernel
theorem d_GR_lose_32 : decode c_GR_lose 32 = .ok (.invokevirtual 165, 3) := by decide +kernel
theorem d_GR_lose_35 : decode c_GR_lose 35 = .ok (.ireturn, 1) := by decide +kernel
theorem d_GR_lose_36 : decode c_GR_lose 36 = .ok (.aload_n 2, 1) := by decide +kernel
theorem d_GR_lose_37 : decode c_GR_lose 37 = .ok (.getfield 168, 3) := by decide +kernel
theorem d_GR_lose_40 : decode c_GR_lose 40 = .ok (.istore_n 3, 1) := by decide +kernel
theorem d_GR_lose_41 : decode c_GR_lose 41 = .ok (.aload_n 2, 1) := by decide +kernel
theorem d_GR_lose_42 : decode c_GR_lose 42 = .ok (.iconst (-1), 1) := by decide +kernel
theorem d_GR_lose_43 : decode c_GR_lose 43 = .ok (.iconst 0, 1) := by decide +kernel
theorem d_GR_lose_44 : decode c_GR_lose 44 = .ok (.invokevirtual 264, 3) := by decide +kernel
theorem d_GR_lose_47 : decode c_GR_lose 47 = .ok (.iload_n 3, 1) := by decide +kernel
theorem d_GR_lose_48 : decode c_GR_lose 48 = .ok (.ireturn, 1) := by decide +kernel
theorem d_Ss_findingAt_0 : decode c_Ss_findingAt 0 = .ok (.aload_n 0, 1) := by decide +kernel
theorem d_Ss_findingAt_1 : decode c_Ss_findingAt 1 = .ok (.iload_n 1, 1) := by decide +kernel
theorem d_Ss_findingAt_2 : decode c_Ss_findingAt 2 = .ok (.invokevirtual 30, 3) := by decide +kernel
theorem d_Ss_findingAt_5 : decode c_Ss_findingAt 5 = .ok (.astore 4, 2) := by decide +kernel
theorem d_Ss_findingAt_7 : decode c_Ss_findingAt 7 = .ok (.aload 4, 2) := by decide +kernel
theorem d_Ss_findingAt_9 : decode c_Ss_findingAt 9 = .ok (.invokevirtual 34, 3) := by decide +kernel
theorem d_Ss_findingAt_12 : decode c_Ss_findingAt 12 = .ok (.ifCond .eq 5, 3) := by decide +kernel
theorem d_Ss_findingAt_15 : decode c_Ss_findingAt 15 = .ok (.iconst 1, 1) := by decide +kernel
theorem d_Ss_findingAt_16 : decode c_Ss_findingAt 16 = .ok (.ireturn, 1) := by decide +kernel
theorem d_Ss_findingAt_17 : decode c_Ss_findingAt 17 = .ok (.aload 4, 2) := by decide +kernel
theorem d_Ss_findingAt_19 : decode c_Ss_findingAt 19 = .ok (.getfield 38, 3) := by decide +kernel
theorem d_Ss_findingAt_22 : decode c_Ss_findingAt 22 = .ok (.iload_n 2, 1) := by decide +kernel
theorem d_Ss_findingAt_23 : decode c_Ss_findingAt 23 = .ok (.if_icmp .eq 5, 3) := by decide +kernel
theorem d_Ss_findingAt_26 : decode c_Ss_findingAt 26 = .ok (.iconst 3, 1) := by decide +kernel
theorem d_Ss_findingAt_27 : decode c_Ss_findingAt 27 = .ok (.ireturn, 1) := by decide +kernel
theorem d_Ss_findingAt_28 : decode c_Ss_findingAt 28 = .ok (.iload_n 3, 1) := by decide +kernel
theorem d_Ss_findingAt_29 : decode c_Ss_findingAt 29 = .ok (.aload 4, 2) := by decide +kernel
theorem d_Ss_findingAt_31 : decode c_Ss_findingAt 31 = .ok (.getfield 41, 3) := by decide +kernel
theorem d_Ss_findingAt_34 : decode c_Ss_findingAt 34 = .ok (.invokestatic 22, 3) := by decide +kernel
theorem d_Ss_findingAt_37 : decode c_Ss_findingAt 37 = .ok (.ifCond .eq 7, 3) := by decide +kernel
theorem d_Ss_findingAt_40 : decode c_Ss_findingAt 40 = .ok (.iconst 0, 1) := by decide +kernel
theorem d_Ss_findingAt_41 : decode c_Ss_findingAt 41 = .ok (.goto 4, 3) := by decide +kernel
theorem d_Ss_findingAt_44 : decode c_Ss_findingAt 44 = .ok (.iconst 2, 1) := by decide +kernel
theorem d_Ss_findingAt_45 : decode c_Ss_findingAt 45 = .ok (.ireturn, 1) := by decide +kernel
theorem d_Sh_fitted_0 : decode c_Sh_fitted 0 = .ok (.aload_n 0, 1) := by decide +kernel
theorem d_Sh_fitted_1 : decode c_Sh_fitted 1 = .ok (.getfield 15, 3) := by decide +kernel
theorem d_Sh_fitted_4 : decode c_Sh_fitted 4 = .ok (.ifCond .ne 6, 3) := by decide +kernel
theorem d_Sh_fitted_7 : decode c_Sh_fitted 7 = .ok (.iload_n 1, 1) := by decide +kernel
theorem d_Sh_fitted_8 : decode c_Sh_fitted 8 = .ok (.i2b, 1) := by decide +kernel
theorem d_Sh_fitted_9 : decode c_Sh_fitted 9 = .ok (.ireturn, 1) := by decide +kernel
theorem d_Sh_fitted_10 : decode c_Sh_fitted 10 = .ok (.aload_n 0, 1) := by decide +kernel
theorem d_Sh_fitted_11 : decode c_Sh_fitted 11 = .ok (.getfield 15, 3) := by decide +kernel
theorem d_Sh_fitted_14 : decode c_Sh_fitted 14 = .ok (.iconst 1, 1) := by decide +kernel
theorem d_Sh_fitted_15 : decode c_Sh_fitted 15 = .ok (.if_icmp .ne 8, 3) := by decide +kernel
theorem d_Sh_fitted_18 : decode c_Sh_fitted 18 = .ok (.iload_n 1, 1) := by decide +kernel
theorem d_Sh_fitted_19 : decode c_Sh_fitted 19 = .ok (.i2s, 1) := by decide +kernel
theorem d_Sh_fitted_20 : decode c_Sh_fitted 20 = .ok (.goto 4, 3) := by decide +kernel
theorem d_Sh_fitted_23 : decode c_Sh_fitted 23 = .ok (.iload_n 1, 1) := by decide +kernel
theorem d_Sh_fitted_24 : decode c_Sh_fitted 24 = .ok (.ireturn, 1) := by decide +kernel
theorem d_Sh_put_0 : decode c_Sh_put 0 = .ok (.iload_n 1, 1) := by decide +kernel
theorem d_Sh_put_1 : decode c_Sh_put 1 = .ok (.bipush 60, 2) := by decide +kernel
theorem d_Sh_put_3 : decode c_Sh_put 3 = .ok (.invokestatic 31, 3) := by decide +kernel
theorem d_Sh_put_6 : decode c_Sh_put 6 = .ok (.ifCond .eq 14, 3) := by decide +kernel
theorem d_Sh_put_9 : decode c_Sh_put 9 = .ok (.aload_n 0, 1) := by decide +kernel
theorem d_Sh_put_10 : decode c_Sh_put 10 = .ok (.getfield 9, 3) := by decide +kernel
theorem d_Sh_put_13 : decode c_Sh_put 13 = .ok (.iload_n 1, 1) := by decide +kernel
theorem d_Sh_put_14 : decode c_Sh_put 14 = .ok (.aload_n 0, 1) := by decide +kernel
theorem d_Sh_put_15 : decode c_Sh_put 15 = .ok (.iload_n 2, 1) := by decide +kernel
theorem d_Sh_put_16 : decode c_Sh_put 16 = .ok (.invokevirtual 35, 3) := by decide +kernel
theorem d_Sh_put_19 : decode c_Sh_put 19 = .ok (.iastore, 1) := by decide +kernel
theorem d_Sh_put_20 : decode c_Sh_put 20 = .ok (.return_, 1) := by decide +kernel
theorem d_GR_lay_0 : decode c_GR_lay 0 = .ok (.iload_n 1, 1) := by decide +kernel
theorem d_GR_lay_1 : decode c_GR_lay 1 = .ok (.iconst 4, 1) := by decide +kernel
theorem d_GR_lay_2 : decode c_GR_lay 2 = .ok (.invokestatic 67, 3) := by decide +kernel
theorem d_GR_lay_5 : decode c_GR_lay 5 = .ok (.ifCond .eq 11, 3) := by decide +kernel
theorem d_GR_lay_8 : decode c_GR_lay 8 = .ok (.iload_n 2, 1) := by decide +kernel
theorem d_GR_lay_9 : decode c_GR_lay 9 = .ok (.iconst 3, 1) := by decide +kernel
theorem d_GR_lay_10 : decode c_GR_lay 10 = .ok (.invokestatic 67, 3) := by decide +kernel
theorem d_GR_lay_13 : decode c_GR_lay 13 = .ok (.ifCond .ne 6, 3) := by decide +kernel
theorem d_GR_lay_16 : decode c_GR_lay 16 = .ok (.bipush (-2), 2) := by decide +kernel
theorem d_GR_lay_18 : decode c_GR_lay 18 = .ok (.ireturn, 1) := by decide +kernel
theorem d_GR_lay_19 : decode c_GR_lay 19 = .ok (.aload_n 0, 1) := by decide +kernel
theorem d_GR_lay_20 : decode c_GR_lay 20 = .ok (.getfield 63, 3) := by decide +kernel
theorem d_GR_lay_23 : decode c_GR_lay 23 = .ok (.iload_n 1, 1) := by decide +kernel
theorem d_GR_lay_24 : decode c_GR_lay 24 = .ok (.iload_n 2, 1) := by decide +kernel
theorem d_GR_lay_25 : decode c_GR_lay 25 = .ok (.iload_n 3, 1) := by decide +kernel
theorem d_GR_lay_26 : decode c_GR_lay 26 = .ok (.invokevirtual 267, 3) := by decide +kernel
theorem d_GR_lay_29 : decode c_GR_lay 29 = .ok (.istore 5, 2) := by decide +kernel
theorem d_GR_lay_31 : decode c_GR_lay 31 = .ok (.iload 5, 2) := by decide +kernel
theorem d_GR_lay_33 : decode c_GR_lay 33 = .ok (.ifCond .eq 13, 3) := by decide +kernel
theorem d_GR_lay_36 : decode c_GR_lay 36 = .ok (.aload_n 0, 1) := by decide +kernel
theorem d_GR_lay_37 : decode c_GR_lay 37 = .ok (.getfield 63, 3) := by decide +kernel
theorem d_GR_lay_40 : decode c_GR_lay 40 = .ok (.iload 5, 2) := by decide +kernel
theorem d_GR_lay_42 : decode c_GR_lay 42 = .ok (.invokevirtual 165, 3) := by decide +kernel
theorem d_GR_lay_45 : decode c_GR_lay 45 = .ok (.ireturn, 1) := by decide +kernel
theorem d_GR_lay_46 : decode c_GR_lay 46 = .ok (.aload_n 0, 1) := by decide +kernel
theorem d_GR_lay_47 : decode c_GR_lay 47 = .ok (.getfield 63, 3) := by decide +kernel
theorem d_GR_lay_50 : decode c_GR_lay 50 = .ok (.iload_n 1, 1) := by decide +kernel
theorem d_GR_lay_51 : decode c_GR_lay 51 = .ok (.invokevirtual 157, 3) := by decide +kernel
theorem d_GR_lay_54 : decode c_GR_lay 54 = .ok (.iload_n 3, 1) := by decide +kernel
theorem d_GR_lay_55 : decode c_GR_lay 55 = .ok (.iload 4, 2) := by decide +kernel
theorem d_GR_lay_57 : decode c_GR_lay 57 = .ok (.invokevirtual 271, 3) := by decide +kernel
theorem d_GR_lay_60 : decode c_GR_lay 60 = .ok (.iconst 1, 1) := by decide +kernel
theorem d_GR_lay_61 : decode c_GR_lay 61 = .ok (.ireturn, 1) := by decide +kernel
theorem d_GR_get_0 : decode c_GR_get 0 = .ok (.iload_n 1, 1) := by decide +kernel
theorem d_GR_get_1 : decode c_GR_get 1 = .ok (.iconst 4, 1) := by decide +kernel
theorem d_GR_get_2 : decode c_GR_get 2 = .ok (.invokestatic 67, 3) := by decide +kernel
theorem d_GR_get_5 : decode c_GR_get 5 = .ok (.ifCond .eq 11, 3) := by decide +kernel
theorem d_GR_get_8 : decode c_GR_get 8 = .ok (.iload_n 2, 1) := by decide +kernel
theorem d_GR_get_9 : decode c_GR_get 9 = .ok (.iconst 3, 1) := by decide +kernel
theorem d_GR_get_10 : decode c_GR_get 10 = .ok (.invokestatic 67, 3) := by decide +kernel
theorem d_GR_get_13 : decode c_GR_get 13 = .ok (.ifCond .ne 7, 3) := by decide +kernel
theorem d_GR_get_16 : decode c_GR_get 16 = .ok (.ldc_w 276, 3) := by decide +kernel
theorem d_GR_get_19 : decode c_GR_get 19 = .ok (.ireturn, 1) := by decide +kernel
theorem d_GR_get_20 : decode c_GR_get 20 = .ok (.aload_n 0, 1) := by decide +kernel
theorem d_GR_get_21 : decode c_GR_get 21 = .ok (.getfield 63, 3) := by decide +kernel
theorem d_GR_get_24 : decode c_GR_get 24 = .ok (.iload_n 1, 1) := by decide +kernel
theorem d_GR_get_25 : decode c_GR_get 25 = .ok (.iload_n 2, 1) := by decide +kernel
theorem d_GR_get_26 : decode c_GR_get 26 = .ok (.iload_n 3, 1) := by decide +kernel
theorem d_GR_get_27 : decode c_GR_get 27 = .ok (.invokevirtual 267, 3) := by decide +kernel
theorem d_GR_get_30 : decode c_GR_get 30 = .ok (.istore 4, 2) := by decide +kernel
theorem d_GR_get_32 : decode c_GR_get 32 = .ok (.iload 4, 2) := by decide +kernel
theorem d_GR_get_34 : decode c_GR_get 34 = .ok (.ifCond .eq 17, 3) := by decide +kernel
theorem d_GR_get_37 : decode c_GR_get 37 = .ok (.aload_n 0, 1) := by decide +kernel
theorem d_GR_get_38 : decode c_GR_get 38 = .ok (.getfield 63, 3) := by decide +kernel
theorem d_GR_get_41 : decode c_GR_get 41 = .ok (.iload 4, 2) := by decide +kernel
theorem d_GR_get_43 : decode c_GR_get 43 = .ok (.invokevirtual 165, 3) := by decide +kernel
theorem d_GR_get_46 : decode c_GR_get 46 = .ok (.pop, 1) := by decide +kernel
theorem d_GR_get_47 : decode c_GR_get 47 = .ok (.ldc_w 276, 3) := by decide +kernel
theorem d_GR_get_50 : decode c_GR_get 50 = .ok (.ireturn, 1) := by decide +kernel
theorem d_GR_get_51 : decode c_GR_get 51 = .ok (.aload_n 0, 1) := by decide +kernel
theorem d_GR_get_52 : decode c_GR_get 52 = .ok (.getfield 63, 3) := by decide +kernel
theorem d_GR_get_55 : decode c_GR_get 55 = .ok (.iload_n 1, 1) := by decide +kernel
theorem d_GR_get_56 : decode c_GR_get 56 = .ok (.invokevirtual 157, 3) := by decide +kernel
theorem d_GR_get_59 : decode c_GR_get 59 = .ok (.iload_n 3, 1) := by decide +kernel
theorem d_GR_get_60 : decode c_GR_get 60 = .ok (.invokevirtual 169, 3) := by decide +kernel
theorem d_GR_get_63 : decode c_GR_get 63 = .ok (.ireturn, 1) := by decide +kernel
theorem d_Sh_hasRun_0 : decode c_Sh_hasRun 0 = .ok (.iload_n 1, 1) := by decide +kernel
theorem d_Sh_hasRun_1 : decode c_Sh_hasRun 1 = .ok (.ifCond .lt 21, 3) := by decide +kernel
theorem d_Sh_hasRun_4 : decode c_Sh_hasRun 4 = .ok (.iload_n 2, 1) := by decide +kernel
theorem d_Sh_hasRun_5 : decode c_Sh_hasRun 5 = .ok (.ifCond .lt 17, 3) := by decide +kernel
theorem d_Sh_hasRun_8 : decode c_Sh_hasRun 8 = .ok (.iload_n 2, 1) := by decide +kernel
theorem d_Sh_hasRun_9 : decode c_Sh_hasRun 9 = .ok (.aload_n 0, 1) := by decide +kernel
theorem d_Sh_hasRun_10 : decode c_Sh_hasRun 10 = .ok (.getfield 28, 3) := by decide +kernel
theorem d_Sh_hasRun_13 : decode c_Sh_hasRun 13 = .ok (.iload_n 1, 1) := by decide +kernel
theorem d_Sh_hasRun_14 : decode c_Sh_hasRun 14 = .ok (.isub, 1) := by decide +kernel
theorem d_Sh_hasRun_15 : decode c_Sh_hasRun 15 = .ok (.if_icmp .gt 7, 3) := by decide +kernel
theorem d_Sh_hasRun_18 : decode c_Sh_hasRun 18 = .ok (.iconst 1, 1) := by decide +kernel
theorem d_Sh_hasRun_19 : decode c_Sh_hasRun 19 = .ok (.goto 4, 3) := by decide +kernel
theorem d_Sh_hasRun_22 : decode c_Sh_hasRun 22 = .ok (.iconst 0, 1) := by decide +kernel
theorem d_Sh_hasRun_23 : decode c_Sh_hasRun 23 = .ok (.ireturn, 1) := by decide +kernel
theorem d_GR_copy_0 : decode c_GR_copy 0 = .ok (.iload_n 1, 1) := by decide +kernel
theorem d_GR_copy_1 : decode c_GR_copy 1 = .ok (.iconst 4, 1) := by decide +kernel
theorem d_GR_copy_2 : decode c_GR_copy 2 = .ok (.invokestatic 67, 3) := by decide +kernel
theorem d_GR_copy_5 : decode c_GR_copy 5 = .ok (.ifCond .eq 11, 3) := by decide +kernel
theorem d_GR_copy_8 : decode c_GR_copy 8 = .ok (.iload_n 3, 1) := by decide +kernel
theorem d_GR_copy_9 : decode c_GR_copy 9 = .ok (.iconst 4, 1) := by decide +kernel
theorem d_GR_copy_10 : decode c_GR_copy 10 = .ok (.invokestatic 67, 3) := by decide +kernel
theorem d_GR_copy_13 : decode c_GR_copy 13 = .ok (.ifCond .ne 6, 3) := by decide +kernel
theorem d_GR_copy_16 : decode c_GR_copy 16 = .ok (.bipush (-2), 2) := by decide +kernel
theorem d_GR_copy_18 : decode c_GR_copy 18 = .ok (.ireturn, 1) := by decide +kernel
theorem d_GR_copy_19 : decode c_GR_copy 19 = .ok (.aload_n 0, 1) := by decide +kernel
theorem d_GR_copy_20 : decode c_GR_copy 20 = .ok (.getfield 63, 3) := by decide +kernel
theorem d_GR_copy_23 : decode c_GR_copy 23 = .ok (.iload_n 1, 1) := by decide +kernel
theorem d_GR_copy_24 : decode c_GR_copy 24 = .ok (.invokevirtual 157, 3) := by decide +kernel
theorem d_GR_copy_27 : decode c_GR_copy 27 = .ok (.astore 6, 2) := by decide +kernel
theorem d_GR_copy_29 : decode c_GR_copy 29 = .ok (.aload_n 0, 1) := by decide +kernel
theorem d_GR_copy_30 : decode c_GR_copy 30 = .ok (.getfield 63, 3) := by decide +kernel
theorem d_GR_copy_33 : decode c_GR_copy 33 = .ok (.iload_n 3, 1) := by decide +kernel
theorem d_GR_copy_34 : decode c_GR_copy 34 = .ok (.invokevirtual 157, 3) := by decide +kernel
theorem d_GR_copy_37 : decode c_GR_copy 37 = .ok (.astore 7, 2) := by decide +kernel
theorem d_GR_copy_39 : decode c_GR_copy 39 = .ok (.aload 6, 2) := by decide +kernel
theorem d_GR_copy_41 : decode c_GR_copy 41 = .ok (.invokevirtual 160, 3) := by decide +kernel
theorem d_GR_copy_44 : decode c_GR_copy 44 = .ok (.ifCond .ne 11, 3) := by decide +kernel
theorem d_GR_copy_47 : decode c_GR_copy 47 = .ok (.aload 7, 2) := by decide +kernel
theorem d_GR_copy_49 : decode c_GR_copy 49 = .ok (.invokevirtual 160, 3) := by decide +kernel
theorem d_GR_copy_52 : decode c_GR_copy 52 = .ok (.ifCond .eq 12, 3) := by decide +kernel
theorem d_GR_copy_55 : decode c_GR_copy 55 = .ok (.aload_n 0, 1) := by decide +kernel
theorem d_GR_copy_56 : decode c_GR_copy 56 = .ok (.getfield 63, 3) := by decide +kernel
theorem d_GR_copy_59 : decode c_GR_copy 59 = .ok (.iconst 1, 1) := by decide +kernel
theorem d_GR_copy_60 : decode c_GR_copy 60 = .ok (.invokevirtual 165, 3) := by decide +kernel
theorem d_GR_copy_63 : decode c_GR_copy 63 = .ok (.ireturn, 1) := by decide +kernel
theorem d_GR_copy_64 : decode c_GR_copy 64 = .ok (.aload 6, 2) := by decide +kernel
theorem d_GR_copy_66 : decode c_GR_copy 66 = .ok (.getfield 277, 3) := by decide +kernel
theorem d_GR_copy_69 : decode c_GR_copy 69 = .ok (.aload 7, 2) := by decide +kernel
theorem d_GR_copy_71 : decode c_GR_copy 71 = .ok (.getfield 277, 3) := by decide +kernel
theorem d_GR_copy_74 : decode c_GR_copy 74 = .ok (.if_icmp .eq 12, 3) := by decide +kernel
theorem d_GR_copy_77 : decode c_GR_copy 77 = .ok (.aload_n 0, 1) := by decide +kernel
theorem d_GR_copy_78 : decode c_GR_copy 78 = .ok (.getfield 63, 3) := by decide +kernel
theorem d_GR_copy_81 : decode c_GR_copy 81 = .ok (.iconst 4, 1) := by decide +kernel
theorem d_GR_copy_82 : decode c_GR_copy 82 = .ok (.invokevirtual 165, 3) := by decide +kernel
theorem d_GR_copy_85 : decode c_GR_copy 85 = .ok (.ireturn, 1) := by decide +kernel
theorem d_GR_copy_86 : decode c_GR_copy 86 = .ok (.aload 6, 2) := by decide +kernel
theorem d_GR_copy_88 : decode c_GR_copy 88 = .ok (.iload_n 2, 1) := by decide +kernel
theorem d_GR_copy_89 : decode c_GR_copy 89 = .ok (.iload 5, 2) := by decide +kernel
theorem d_GR_copy_91 : decode c_GR_copy 91 = .ok (.invokevirtual 280, 3) := by decide +kernel
theorem d_GR_copy_94 : decode c_GR_copy 94 = .ok (.ifCond .eq 15, 3) := by decide +kernel
theorem d_GR_copy_97 : decode c_GR_copy 97 = .ok (.aload 7, 2) := by decide +kernel
theorem d_GR_copy_99 : decode c_GR_copy 99 = .ok (.iload 4, 2) := by decide +kernel
theorem d_GR_copy_101 : decode c_GR_copy 101 = .ok (.iload 5, 2) := by decide +kernel
theorem d_GR_copy_103 : decode c_GR_copy 103 = .ok (.invokevirtual 280, 3) := by decide +kernel
theorem d_GR_copy_106 : decode c_GR_copy 106 = .ok (.ifCond .ne 12, 3) := by decide +kernel
theorem d_GR_copy_109 : decode c_GR_copy 109 = .ok (.aload_n 0, 1) := by decide +kernel
theorem d_GR_copy_110 : decode c_GR_copy 110 = .ok (.getfield 63, 3) := by decide +kernel
theorem d_GR_copy_113 : decode c_GR_copy 113 = .ok (.iconst 2, 1) := by decide +kernel
theorem d_GR_copy_114 : decode c_GR_copy 114 = .ok (.invokevirtual 165, 3) := by decide +kernel
theorem d_GR_copy_117 : decode c_GR_copy 117 = .ok (.ireturn, 1) := by decide +kernel
theorem d_GR_copy_118 : decode c_GR_copy 118 = .ok (.aload 6, 2) := by decide +kernel
theorem d_GR_copy_120 : decode c_GR_copy 120 = .ok (.getfield 283, 3) := by decide +kernel
theorem d_GR_copy_123 : decode c_GR_copy 123 = .ok (.iload_n 2, 1) := by decide +kernel
theorem d_GR_copy_124 : decode c_GR_copy 124 = .ok (.aload 7, 2) := by decide +kernel
theorem d_GR_copy_126 : decode c_GR_copy 126 = .ok (.getfield 283, 3) := by decide +kernel
theorem d_GR_copy_129 : decode c_GR_copy 129 = .ok (.iload 4, 2) := by decide +kernel
theorem d_GR_copy_131 : decode c_GR_copy 131 = .ok (.iload 5, 2) := by decide +kernel
theorem d_GR_copy_133 : decode c_GR_copy 133 = .ok (.invokestatic 286, 3) := by decide +kernel
theorem d_GR_copy_136 : decode c_GR_copy 136 = .ok (.iconst 1, 1) := by decide +kernel
theorem d_GR_copy_137 : decode c_GR_copy 137 = .ok (.ireturn, 1) := by decide +kernel
theorem d_GR_write_0 : decode c_GR_write 0 = .ok (.iload_n 1, 1) := by decide +kernel
theorem d_GR_write_1 : decode c_GR_write 1 = .ok (.iconst 4, 1) := by decide +kernel
theorem d_GR_write_2 : decode c_GR_write 2 = .ok (.invokestatic 67, 3) := by decide +kernel
theorem d_GR_write_5 : decode c_GR_write 5 = .ok (.ifCond .ne 6, 3) := by decide +kernel
theorem d_GR_write_8 : decode c_GR_write 8 = .ok (.bipush (-2), 2) := by decide +kernel
theorem d_GR_write_10 : decode c_GR_write 10 = .ok (.ireturn, 1) := by decide +kernel
theorem d_GR_write_11 : decode c_GR_write 11 = .ok (.aload_n 0, 1) := by decide +kernel
theorem d_GR_write_12 : decode c_GR_write 12 = .ok (.getfield 63, 3) := by decide +kernel
theorem d_GR_write_15 : decode c_GR_write 15 = .ok (.iload_n 1, 1) := by decide +kernel
theorem d_GR_write_16 : decode c_GR_write 16 = .ok (.invokevirtual 157, 3) := by decide +kernel
theorem d_GR_write_19 : decode c_GR_write 19 = .ok (.astore_n 2, 1) := by decide +kernel
theorem d_GR_write_20 : decode c_GR_write 20 = .ok (.aload_n 2, 1) := by decide +kernel
theorem d_GR_write_21 : decode c_GR_write 21 = .ok (.invokevirtual 160, 3) := by decide +kernel
theorem d_GR_write_24 : decode c_GR_write 24 = .ok (.ifCond .eq 12, 3) := by decide +kernel
theorem d_GR_write_27 : decode c_GR_write 27 = .ok (.aload_n 0, 1) := by decide +kernel
theorem d_GR_write_28 : decode c_GR_write 28 = .ok (.getfield 63, 3) := by decide +kernel
theorem d_GR_write_31 : decode c_GR_write 31 = .ok (.iconst 1, 1) := by decide +kernel
theorem d_GR_write_32 : decode c_GR_write 32 = .ok (.invokevirtual 165, 3) := by decide +kernel
theorem d_GR_write_35 : decode c_GR_write 35 = .ok (.ireturn, 1) := by decide +kernel
theorem d_GR_write_36 : decode c_GR_write 36 = .ok (.aload_n 0, 1) := by decide +kernel
theorem d_GR_write_37 : decode c_GR_write 37 = .ok (.getfield 42, 3) := by decide +kernel
theorem d_GR_write_40 : decode c_GR_write 40 = .ok (.aload_n 0, 1) := by decide +kernel
theorem d_GR_write_41 : decode c_GR_write 41 = .ok (.getfield 24, 3) := by decide +kernel
theorem d_GR_write_44 : decode c_GR_write 44 = .ok (.aload_n 0, 1) := by decide +kernel
theorem d_GR_write_45 : decode c_GR_write 45 = .ok (.getfield 35, 3) := by decide +kernel
theorem d_GR_write_48 : decode c_GR_write 48 = .ok (.aload_n 0, 1) := by decide +kernel
theorem d_GR_write_49 : decode c_GR_write 49 = .ok (.getfield 28, 3) := by decide +kernel
theorem d_GR_write_52 : decode c_GR_write 52 = .ok (.iconst 0, 1) := by decide +kernel
theorem d_GR_write_53 : decode c_GR_write 53 = .ok (.iaload, 1) := by decide +kernel
theorem d_GR_write_54 : decode c_GR_write 54 = .ok (.invokevirtual 191, 3) := by decide +kernel
theorem d_GR_write_57 : decode c_GR_write 57 = .ok (.aload_n 2, 1) := by decide +kernel
theorem d_GR_write_58 : decode c_GR_write 58 = .ok (.getfield 168, 3) := by decide +kernel
theorem d_GR_write_61 : decode c_GR_write 61 = .ok (.aload_n 0, 1) := by decide +kernel
theorem d_GR_write_62 : decode c_GR_write 62 = .ok (.getfield 35, 3) := by decide +kernel
theorem d_GR_write_65 : decode c_GR_write 65 = .ok (.getfield 154, 3) := by decide +kernel
theorem d_GR_write_68 : decode c_GR_write 68 = .ok (.invokestatic 292, 3) := by decide +kernel
theorem d_GR_write_71 : decode c_GR_write 71 = .ok (.istore_n 3, 1) := by decide +kernel
theorem d_GR_write_72 : decode c_GR_write 72 = .ok (.iconst 0, 1) := by decide +kernel
theorem d_GR_write_73 : decode c_GR_write 73 = .ok (.istore 4, 2) := by decide +kernel
theorem d_GR_write_75 : decode c_GR_write 75 = .ok (.iload 4, 2) := by decide +kernel
theorem d_GR_write_77 : decode c_GR_write 77 = .ok (.iload_n 3, 1) := by decide +kernel
theorem d_GR_write_78 : decode c_GR_write 78 = .ok (.if_icmp .ge 24, 3) := by decide +kernel
theorem d_GR_write_81 : decode c_GR_write 81 = .ok (.aload_n 2, 1) := by decide +kernel
theorem d_GR_write_82 : decode c_GR_write 82 = .ok (.iload 4, 2) := by decide +kernel
theorem d_GR_write_84 : decode c_GR_write 84 = .ok (.aload_n 0, 1) := by decide +kernel
theorem d_GR_write_85 : decode c_GR_write 85 = .ok (.getfield 42, 3) := by decide +kernel
theorem d_GR_write_88 : decode c_GR_write 88 = .ok (.iload 4, 2) := by decide +kernel
theorem d_GR_write_90 : decode c_GR_write 90 = .ok (.invokevirtual 195, 3) := by decide +kernel
theorem d_GR_write_93 : decode c_GR_write 93 = .ok (.invokevirtual 271, 3) := by decide +kernel
theorem d_GR_write_96 : decode c_GR_write 96 = .ok (.iinc 4 1, 3) := by decide +kernel
theorem d_GR_write_99 : decode c_GR_write 99 = .ok (.goto (-24), 3) := by decide +kernel
theorem d_GR_write_102 : decode c_GR_write 102 = .ok (.iload_n 3, 1) := by decide +kernel
theorem d_GR_write_103 : decode c_GR_write 103 = .ok (.ireturn, 1) := by decide +kernel
theorem d_GR_tripsThatCount_0 : decode c_GR_tripsThatCount 0 = .ok (.iconst 0, 1) := by decide +kernel
theorem d_GR_tripsThatCount_1 : decode c_GR_tripsThatCount 1 = .ok (.istore_n 1, 1) := by decide +kernel
theorem d_GR_tripsThatCount_2 : decode c_GR_tripsThatCount 2 = .ok (.iconst 0, 1) := by decide +kernel
theorem d_GR_tripsThatCount_3 : decode c_GR_tripsThatCount 3 = .ok (.istore_n 2, 1) := by decide +kernel
theorem d_GR_tripsThatCount_4 : decode c_GR_tripsThatCount 4 = .ok (.iload_n 2, 1) := by decide +kernel
theorem d_GR_tripsThatCount_5 : decode c_GR_tripsThatCount 5 = .ok (.aload_n 0, 1) := by decide +kernel
theorem d_GR_tripsThatCount_6 : decode c_GR_tripsThatCount 6 = .ok (.getfield 35, 3) := by decide +kernel
theorem d_GR_tripsThatCount_9 : decode c_GR_tripsThatCount 9 = .ok (.getfield 154, 3) := by decide +kernel
theorem d_GR_tripsThatCount_12 : decode c_GR_tripsThatCount 12 = .ok (.if_icmp .ge 33, 3) := by decide +kernel
theorem d_GR_tripsThatCount_15 : decode c_GR_tripsThatCount 15 = .ok (.aload_n 0, 1) := by decide +kernel
theorem d_GR_tripsThatCount_16 : decode c_GR_tripsThatCount 16 = .ok (.getfield 24, 3) := by decide +kernel
theorem d_GR_tripsThatCount_19 : decode c_GR_tripsThatCount 19 = .ok (.aload_n 0, 1) := by decide +kernel
theorem d_GR_tripsThatCount_20 : decode c_GR_tripsThatCount 20 = .ok (.getfield 35, 3) := by decide +kernel
theorem d_GR_tripsThatCount_23 : decode c_GR_tripsThatCount 23 = .ok (.iload_n 2, 1) := by decide +kernel
theorem d_GR_tripsThatCount_24 : decode c_GR_tripsThatCount 24 = .ok (.invokevirtual 209, 3) := by decide +kernel
theorem d_GR_tripsThatCount_27 : decode c_GR_tripsThatCount 27 = .ok (.getfield 212, 3) := by decide +kernel
theorem d_GR_tripsThatCount_30 : decode c_GR_tripsThatCount 30 = .ok (.invokevirtual 100, 3) := by decide +kernel
theorem d_GR_tripsThatCount_33 : decode c_GR_tripsThatCount 33 = .ok (.ifCond .eq 6, 3) := by decide +kernel
theorem d_GR_tripsThatCount_36 : decode c_GR_tripsThatCount 36 = .ok (.iinc 1 1, 3) := by decide +kernel
theorem d_GR_tripsThatCount_39 : decode c_GR_tripsThatCount 39 = .ok (.iinc 2 1, 3) := by decide +kernel
theorem d_GR_tripsThatCount_42 : decode c_GR_tripsThatCount 42 = .ok (.goto (-38), 3) := by decide +kernel
theorem d_GR_tripsThatCount_45 : decode c_GR_tripsThatCount 45 = .ok (.iload_n 1, 1) := by decide +kernel
theorem d_GR_tripsThatCount_46 : decode c_GR_tripsThatCount 46 = .ok (.ireturn, 1) := by decide +kernel
theorem d_Rs_pairsThatMeet_0 : decode c_Rs_pairsThatMeet 0 = .ok (.iconst 0, 1) := by decide +kernel
theorem d_Rs_pairsThatMeet_1 : decode c_Rs_pairsThatMeet 1 = .ok (.istore_n 1, 1) := by decide +kernel
theorem d_Rs_pairsThatMeet_2 : decode c_Rs_pairsThatMeet 2 = .ok (.iconst 0, 1) := by decide +kernel
theorem d_Rs_pairsThatMeet_3 : decode c_Rs_pairsThatMeet 3 = .ok (.istore_n 2, 1) := by decide +kernel
theorem d_Rs_pairsThatMeet_4 : decode c_Rs_pairsThatMeet 4 = .ok (.iload_n 2, 1) := by decide +kernel
theorem d_Rs_pairsThatMeet_5 : decode c_Rs_pairsThatMeet 5 = .ok (.aload_n 0, 1) := by decide +kernel
theorem d_Rs_pairsThatMeet_6 : decode c_Rs_pairsThatMeet 6 = .ok (.getfield 33, 3) := by decide +kernel
theorem d_Rs_pairsThatMeet_9 : decode c_Rs_pairsThatMeet 9 = .ok (.if_icmp .ge 21, 3) := by decide +kernel
theorem d_Rs_pairsThatMeet_12 : decode c_Rs_pairsThatMeet 12 = .ok (.iload_n 1, 1) := by decide +kernel
theorem d_Rs_pairsThatMeet_13 : decode c_Rs_pairsThatMeet 13 = .ok (.aload_n 0, 1) := by decide +kernel
theorem d_Rs_pairsThatMeet_14 : decode c_Rs_pairsThatMeet 14 = .ok (.aload_n 0, 1) := by decide +kernel
theorem d_Rs_pairsThatMeet_15 : decode c_Rs_pairsThatMeet 15 = .ok (.iload_n 2, 1) := by decide +kernel
theorem d_Rs_pairsThatMeet_16 : decode c_Rs_pairsThatMeet 16 = .ok (.invokevirtual 44, 3) := by decide +kernel
theorem d_Rs_pairsThatMeet_19 : decode c_Rs_pairsThatMeet 19 = .ok (.invokevirtual 52, 3) := by decide +kernel
theorem d_Rs_pairsThatMeet_22 : decode c_Rs_pairsThatMeet 22 = .ok (.iadd, 1) := by decide +kernel
theorem d_Rs_pairsThatMeet_23 : decode c_Rs_pairsThatMeet 23 = .ok (.istore_n 1, 1) := by decide +kernel
theorem d_Rs_pairsThatMeet_24 : decode c_Rs_pairsThatMeet 24 = .ok (.iinc 2 1, 3) := by decide +kernel
theorem d_Rs_pairsThatMeet_27 : decode c_Rs_pairsThatMeet 27 = .ok (.goto (-23), 3) := by decide +kernel
theorem d_Rs_pairsThatMeet_30 : decode c_Rs_pairsThatMeet 30 = .ok (.iload_n 1, 1) := by decide +kernel
theorem d_Rs_pairsThatMeet_31 : decode c_Rs_pairsThatMeet 31 = .ok (.iconst 2, 1) := by decide +kernel
theorem d_Rs_pairsThatMeet_32 : decode c_Rs_pairsThatMeet 32 = .ok (.idiv, 1) := by decide +kernel
theorem d_Rs_pairsThatMeet_33 : decode c_Rs_pairsThatMeet 33 = .ok (.ireturn, 1) := by decide +kernel
def f_GR_lose (σ : Sg) (v1 : Int32) : Option (Int32 × Sg) :=
  if (f_GR_isBelow v1 4) = 0 then
    some ((-2), σ)
  else
    if (f_Sh_isLost σ (f_Ss_at v1)) = 0 then
      (f_Sh_renew σ (f_Ss_at v1) (-1) 0).bind fun σ4 =>
        some (σ.1 (f_Ss_at v1) 2, σ4)
    else
      bd (f_Ss_find σ 1) fun r7 σ6 =>
        some (r7, σ6)
set_option maxHeartbeats 4000000 in
theorem j_GR_lose {V : Vx} {X : Xx} {r : Int32} {σ' : Sg} (σ : Sg) (v1 : Int32) (hf : f_GR_lose σ v1 = some (r, σ')) : J V X (k2_rm 2 44) c_GR_lose R_GR 4 (some .int) (Qr V X (some (.int r)) σ') σ 0 [(0, rf V 0), (1, .int v1)] [] := by
  unfold f_GR_lose at hf
  refine J_iload_n (pc' := 1) d_GR_lose_0 rfl 1 rfl ?_
  refine J_iconst (pc' := 2) (v := 4) d_GR_lose_1 rfl ic_4 ?_
  refine J_S (pc' := 5) (as := [.int v1, .int 4]) (rest := []) (st' := [.int (f_GR_isBelow v1 4)]) d_GR_lose_2 rfl ms_GR_67 (ct_GR_isBelow V _ σ v1 4) rfl rfl ⟨Nat.le_of_ble_eq_true rfl, Nat.le_of_ble_eq_true rfl⟩ ⟨rfl, rfl⟩ (Nat.le_of_ble_eq_true rfl) rfl ?_
  refine J_if_ne (pc' := 8) (tgt := 11) d_GR_lose_5 rfl (by decide) (fun hc1 => ?_) (fun hc1 => ?_)
  · have hf := brF hc1 hf
    refine J_aload_n (pc' := 12) d_GR_lose_11 rfl 0 rfl ?_
    refine J_getR (pc' := 15) d_GR_lose_12 rfl sh_0 fl_GR_63 rfl ?_
    refine J_iload_n (pc' := 16) d_GR_lose_15 rfl 1 rfl ?_
    refine J_V (pc' := 19) (as := [.int v1]) (rest := []) (st' := [rf V (f_Ss_at v1)]) d_GR_lose_16 rfl sh_54 rfl mv_GR_157 (ct_Ss_at V _ σ v1) rfl rfl ⟨Nat.le_of_ble_eq_true rfl, Nat.le_of_ble_eq_true rfl⟩ ⟨rfl, rfl⟩ (Nat.le_of_ble_eq_true rfl) rfl ?_
    refine J_astore_n (pc' := 20) (lv' := [(2, rf V (f_Ss_at v1)), (0, rf V 0), (1, .int v1)]) d_GR_lose_19 rfl rfl (by decide) rfl ?_
    refine J_aload_n (pc' := 21) d_GR_lose_20 rfl 0 rfl ?_
    refine J_V (pc' := 24) (as := []) (rest := []) (st' := [.int (f_Sh_isLost σ (f_Ss_at v1))]) d_GR_lose_21 rfl (sh_Sh (is_Ss_at v1)) rfl mv_GR_160 (ct_Sh_isLost V _ σ (f_Ss_at v1) (is_Ss_at v1)) rfl rfl ⟨Nat.le_of_ble_eq_true rfl, Nat.le_of_ble_eq_true rfl⟩ ⟨rfl, rfl⟩ (Nat.le_of_ble_eq_true rfl) rfl ?_
    refine J_if_eq (pc' := 27) (tgt := 36) d_GR_lose_24 rfl (by decide) (fun hc2 => ?_) (fun hc2 => ?_)
    · have hf := brT hc2 hf
      refine J_aload_n (pc' := 37) d_GR_lose_36 rfl 0 rfl ?_
      refine J_getI (pc' := 40) d_GR_lose_37 rfl (sh_Sh (is_Ss_at v1)) fl_GR_168 rfl ?_
      refine J_istore_n (pc' := 41) (lv' := [(3, .int (σ.1 (f_Ss_at v1) 2)), (2, rf V (f_Ss_at v1)), (0, rf V 0), (1, .int v1)]) d_GR_lose_40 rfl rfl (by decide) rfl ?_
      refine J_aload_n (pc' := 42) d_GR_lose_41 rfl 1 rfl ?_
      refine J_iconst (pc' := 43) (v := (-1)) d_GR_lose_42 rfl ic_m1 ?_
      refine J_iconst (pc' := 44) (v := 0) d_GR_lose_43 rfl ic_0 ?_
      obtain ⟨σ4, hq3, hf⟩ := bpE hf
      refine J_V (pc' := 47) (as := [.int (-1), .int 0]) (rest := []) (st' := []) d_GR_lose_44 rfl (sh_Sh (is_Ss_at v1)) rfl mv_GR_264 (ct_Sh_renew V _ σ (f_Ss_at v1) (-1) 0 (is_Ss_at v1) hq3) rfl rfl ⟨Nat.le_of_ble_eq_true rfl, Nat.le_of_ble_eq_true rfl⟩ ⟨rfl, rfl⟩ (Nat.le_of_ble_eq_true rfl) rfl ?_
      refine J_iload_n (pc' := 48) d_GR_lose_47 rfl 0 rfl ?_
      obtain ⟨rfl, rfl⟩ := resE hf
      exact J_iret d_GR_lose_48
    · have hf := brF hc2 hf
      refine J_aload_n (pc' := 28) d_GR_lose_27 rfl 1 rfl ?_
      refine J_getR (pc' := 31) d_GR_lose_28 rfl sh_0 fl_GR_63 rfl ?_
      refine J_iconst (pc' := 32) (v := 1) d_GR_lose_31 rfl ic_1 ?_
      obtain ⟨r7, σ6, hq5, hf⟩ := bdE hf
      refine J_V (pc' := 35) (as := [.int 1]) (rest := []) (st' := [.int r7]) d_GR_lose_32 rfl sh_54 rfl mv_GR_165 (ct_Ss_find V _ σ 1 hq5) rfl rfl ⟨Nat.le_of_ble_eq_true rfl, Nat.le_of_ble_eq_true rfl⟩ ⟨rfl, rfl⟩ (Nat.le_of_ble_eq_true rfl) rfl ?_
      obtain ⟨rfl, rfl⟩ := resE hf
      exact J_iret d_GR_lose_35
  · have hf := brT hc1 hf
    refine J_bipush (pc' := 10) (v := (-2)) d_GR_lose_8 rfl bc_m2 ?_
    obtain ⟨rfl, rfl⟩ := resE hf
    exact J_iret d_GR_lose_10
theorem ct_GR_lose (V : Vx) (l : Launch) (σ : Sg) (v1 : Int32) {r : Int32} {σ' : Sg} (hf : f_GR_lose σ v1 = some (r, σ')) : Ct V l y_GR_lose c_GR_lose 4 (some .int) (k2_rm 2 44) [rf V 0, .int v1] σ (some (.int r)) σ' := Ct.ofJ (by decide +kernel) (Nat.le_of_ble_eq_true rfl) fun X _ => j_GR_lose _ v1 hf
def f_Ss_findingAt (σ : Sg) (v1 : Int32) (v2 : Int32) (v3 : Int32) : Int32 :=
  if (f_Sh_isLost σ (f_Ss_at v1)) = 0 then if (σ.1 (f_Ss_at v1) 1) = v2 then if (f_GR_isBelow v3 (σ.1 (f_Ss_at v1) 2)) = 0 then 2 else 0 else 3 else 1
set_option maxHeartbeats 4000000 in
theorem j_Ss_findingAt {V : Vx} {X : Xx} {r : Int32} (σ : Sg) (v1 : Int32) (v2 : Int32) (v3 : Int32) (hf : f_Ss_findingAt σ v1 v2 v3 = r) : J V X (k2_rm 2 43) c_Ss_findingAt R_Ss 5 (some .int) (Qr V X (some (.int r)) σ) σ 0 [(0, rf V 54), (1, .int v1), (2, .int v2), (3, .int v3)] [] := by
  unfold f_Ss_findingAt at hf
  refine J_aload_n (pc' := 1) d_Ss_findingAt_0 rfl 0 rfl ?_
  refine J_iload_n (pc' := 2) d_Ss_findingAt_1 rfl 1 rfl ?_
  refine J_V (pc' := 5) (as := [.int v1]) (rest := []) (st' := [rf V (f_Ss_at v1)]) d_Ss_findingAt_2 rfl sh_54 rfl mv_Ss_30 (ct_Ss_at V _ σ v1) rfl rfl ⟨Nat.le_of_ble_eq_true rfl, Nat.le_of_ble_eq_true rfl⟩ ⟨rfl, rfl⟩ (Nat.le_of_ble_eq_true rfl) rfl ?_
  refine J_astore (pc' := 7) (lv' := [(4, rf V (f_Ss_at v1)), (0, rf V 54), (1, .int v1), (2, .int v2), (3, .int v3)]) d_Ss_findingAt_5 rfl (by decide) rfl ?_
  refine J_aload (pc' := 9) d_Ss_findingAt_7 rfl 0 rfl ?_
  refine J_V (pc' := 12) (as := []) (rest := []) (st' := [.int (f_Sh_isLost σ (f_Ss_at v1))]) d_Ss_findingAt_9 rfl (sh_Sh (is_Ss_at v1)) rfl mv_Ss_34 (ct_Sh_isLost V _ σ (f_Ss_at v1) (is_Ss_at v1)) rfl rfl ⟨Nat.le_of_ble_eq_true rfl, Nat.le_of_ble_eq_true rfl⟩ ⟨rfl, rfl⟩ (Nat.le_of_ble_eq_true rfl) rfl ?_
  refine J_if_eq (pc' := 15) (tgt := 17) d_Ss_findingAt_12 rfl (by decide) (fun hc1 => ?_) (fun hc1 => ?_)
  · have hf := brT hc1 hf
    refine J_aload (pc' := 19) d_Ss_findingAt_17 rfl 0 rfl ?_
    refine J_getI (pc' := 22) d_Ss_findingAt_19 rfl (sh_Sh (is_Ss_at v1)) fl_Ss_38 rfl ?_
    refine J_iload_n (pc' := 23) d_Ss_findingAt_22 rfl 3 rfl ?_
    refine J_icmp_eq (pc' := 26) (tgt := 28) d_Ss_findingAt_23 rfl (by decide) (fun hc2 => ?_) (fun hc2 => ?_)
    · have hf := brT hc2 hf
      refine J_iload_n (pc' := 29) d_Ss_findingAt_28 rfl 4 rfl ?_
      refine J_aload (pc' := 31) d_Ss_findingAt_29 rfl 0 rfl ?_
      refine J_getI (pc' := 34) d_Ss_findingAt_31 rfl (sh_Sh (is_Ss_at v1)) fl_Ss_41 rfl ?_
      refine J_S (pc' := 37) (as := [.int v3, .int (σ.1 (f_Ss_at v1) 2)]) (rest := []) (st' := [.int (f_GR_isBelow v3 (σ.1 (f_Ss_at v1) 2))]) d_Ss_findingAt_34 rfl ms_Ss_22 (ct_GR_isBelow V _ σ v3 (σ.1 (f_Ss_at v1) 2)) rfl rfl ⟨Nat.le_of_ble_eq_true rfl, Nat.le_of_ble_eq_true rfl⟩ ⟨rfl, rfl⟩ (Nat.le_of_ble_eq_true rfl) rfl ?_
      refine J_if_eq (pc' := 40) (tgt := 44) d_Ss_findingAt_37 rfl (by decide) (fun hc3 => ?_) (fun hc3 => ?_)
      · have hf := brT hc3 hf
        refine J_iconst (pc' := 45) (v := 2) d_Ss_findingAt_44 rfl ic_2 ?_
        subst hf
        exact J_iret d_Ss_findingAt_45
      · have hf := brF hc3 hf
        refine J_iconst (pc' := 41) (v := 0) d_Ss_findingAt_40 rfl ic_0 ?_
        refine J_goto (tgt := 45) d_Ss_findingAt_41 (by decide) ?_
        subst hf
        exact J_iret d_Ss_findingAt_45
    · have hf := brF hc2 hf
      refine J_iconst (pc' := 27) (v := 3) d_Ss_findingAt_26 rfl ic_3 ?_
      subst hf
      exact J_iret d_Ss_findingAt_27
  · have hf := brF hc1 hf
    refine J_iconst (pc' := 16) (v := 1) d_Ss_findingAt_15 rfl ic_1 ?_
    subst hf
    exact J_iret d_Ss_findingAt_16
theorem ct_Ss_findingAt (V : Vx) (l : Launch) (σ : Sg) (v1 : Int32) (v2 : Int32) (v3 : Int32) : Ct V l y_Ss_findingAt c_Ss_findingAt 5 (some .int) (k2_rm 2 43) [rf V 54, .int v1, .int v2, .int v3] σ (some (.int (f_Ss_findingAt σ v1 v2 v3))) σ := Ct.ofJ (by decide +kernel) (Nat.le_of_ble_eq_true rfl) fun X _ => j_Ss_findingAt _ v1 v2 v3 rfl
def f_Sh_fitted (σ : Sg) (v0 : Nat) (v1 : Int32) : Int32 :=
  if (σ.1 v0 1) = 0 then v1.toInt8.toInt32 else if (σ.1 v0 1) = 1 then v1.toInt16.toInt32 else v1
set_option maxHeartbeats 4000000 in
theorem j_Sh_fitted {V : Vx} {X : Xx} {r : Int32} (σ : Sg) (v0 : Nat) (v1 : Int32) (iv0 : is_Sh v0) (hf : f_Sh_fitted σ v0 v1 = r) : J V X (k2_rm 0 0) c_Sh_fitted R_Sh 2 (some .int) (Qr V X (some (.int r)) σ) σ 0 [(0, rf V v0), (1, .int v1)] [] := by
  unfold f_Sh_fitted at hf
  refine J_aload_n (pc' := 1) d_Sh_fitted_0 rfl 0 rfl ?_
  refine J_getI (pc' := 4) d_Sh_fitted_1 rfl (sh_Sh iv0) fl_Sh_15 rfl ?_
  refine J_if_ne (pc' := 7) (tgt := 10) d_Sh_fitted_4 rfl (by decide) (fun hc1 => ?_) (fun hc1 => ?_)
  · have hf := brF hc1 hf
    refine J_aload_n (pc' := 11) d_Sh_fitted_10 rfl 0 rfl ?_
    refine J_getI (pc' := 14) d_Sh_fitted_11 rfl (sh_Sh iv0) fl_Sh_15 rfl ?_
    refine J_iconst (pc' := 15) (v := 1) d_Sh_fitted_14 rfl ic_1 ?_
    refine J_icmp_ne (pc' := 18) (tgt := 23) d_Sh_fitted_15 rfl (by decide) (fun hc2 => ?_) (fun hc2 => ?_)
    · have hf := brF hc2 hf
      refine J_iload_n (pc' := 24) d_Sh_fitted_23 rfl 1 rfl ?_
      subst hf
      exact J_iret d_Sh_fitted_24
    · have hf := brT hc2 hf
      refine J_iload_n (pc' := 19) d_Sh_fitted_18 rfl 1 rfl ?_
      refine J_i2s (pc' := 20) d_Sh_fitted_19 rfl ?_
      refine J_goto (tgt := 24) d_Sh_fitted_20 (by decide) ?_
      subst hf
      exact J_iret d_Sh_fitted_24
  · have hf := brT hc1 hf
    refine J_iload_n (pc' := 8) d_Sh_fitted_7 rfl 1 rfl ?_
    refine J_i2b (pc' := 9) d_Sh_fitted_8 rfl ?_
    subst hf
    exact J_iret d_Sh_fitted_9
theorem ct_Sh_fitted (V : Vx) (l : Launch) (σ : Sg) (v0 : Nat) (v1 : Int32) (iv0 : is_Sh v0) : Ct V l y_Sh_fitted c_Sh_fitted 2 (some .int) (k2_rm 0 0) [rf V v0, .int v1] σ (some (.int (f_Sh_fitted σ v0 v1))) σ := Ct.ofJ (by decide +kernel) (Nat.le_of_ble_eq_true rfl) fun X _ => j_Sh_fitted _ v0 v1 iv0 rfl
def f_Sh_put (σ : Sg) (v0 : Nat) (v1 : Int32) (v2 : Int32) : Option Sg :=
  if (f_GR_isBelow v1 60) = 0 then some σ else some (pI σ (v0 + 1) v1.toNatClampNeg (f_Sh_fitted σ v0 v2))
set_option maxHeartbeats 4000000 in
theorem j_Sh_put {V : Vx} {X : Xx} {σ' : Sg} (σ : Sg) (v0 : Nat) (v1 : Int32) (v2 : Int32) (iv0 : is_Sh v0) (hf : f_Sh_put σ v0 v1 v2 = some σ') : J V X (k2_rm 1 21) c_Sh_put R_Sh 3 none (Qr V X none σ') σ 0 [(0, rf V v0), (1, .int v1), (2, .int v2)] [] := by
  unfold f_Sh_put at hf
  refine J_iload_n (pc' := 1) d_Sh_put_0 rfl 1 rfl ?_
  refine J_bipush (pc' := 3) (v := 60) d_Sh_put_1 rfl bc_60 ?_
  refine J_S (pc' := 6) (as := [.int v1, .int 60]) (rest := []) (st' := [.int (f_GR_isBelow v1 60)]) d_Sh_put_3 rfl ms_Sh_31 (ct_GR_isBelow V _ σ v1 60) rfl rfl ⟨Nat.le_of_ble_eq_true rfl, Nat.le_of_ble_eq_true rfl⟩ ⟨rfl, rfl⟩ (Nat.le_of_ble_eq_true rfl) rfl ?_
  refine J_if_eq (pc' := 9) (tgt := 20) d_Sh_put_6 rfl (by decide) (fun hc1 => ?_) (fun hc1 => ?_)
  · have hf := brT hc1 hf
    obtain rfl := Option.some.inj hf
    exact J_vret d_Sh_put_20
  · have hf := brF hc1 hf
    refine J_aload_n (pc' := 10) d_Sh_put_9 rfl 0 rfl ?_
    refine J_getR (pc' := 13) d_Sh_put_10 rfl (sh_Sh iv0) fl_Sh_9 rfl ?_
    refine J_iload_n (pc' := 14) d_Sh_put_13 rfl 1 rfl ?_
    refine J_aload_n (pc' := 15) d_Sh_put_14 rfl 0 rfl ?_
    refine J_iload_n (pc' := 16) d_Sh_put_15 rfl 2 rfl ?_
    refine J_V (pc' := 19) (as := [.int v2]) (rest := [.int v1, rf V (v0 + 1)]) (st' := [.int (f_Sh_fitted σ v0 v2), .int v1, rf V (v0 + 1)]) d_Sh_put_16 rfl (sh_Sh iv0) rfl mv_Sh_35 (ct_Sh_fitted V _ σ v0 v2 iv0) rfl rfl ⟨Nat.le_of_ble_eq_true rfl, Nat.le_of_ble_eq_true rfl⟩ ⟨rfl, rfl⟩ (Nat.le_of_ble_eq_true rfl) rfl ?_
    refine J_ias (pc' := 20) d_Sh_put_19 rfl (sh_Sh_a iv0) (vin_b hc1) ?_
    obtain rfl := Option.some.inj hf
    exact J_vret d_Sh_put_20
theorem ct_Sh_put (V : Vx) (l : Launch) (σ : Sg) (v0 : Nat) (v1 : Int32) (v2 : Int32) (iv0 : is_Sh v0) {σ' : Sg} (hf : f_Sh_put σ v0 v1 v2 = some σ') : Ct V l y_Sh_put c_Sh_put 3 none (k2_rm 1 21) [rf V v0, .int v1, .int v2] σ none σ' := Ct.ofJ (by decide +kernel) (Nat.le_of_ble_eq_true rfl) fun X _ => j_Sh_put _ v0 v1 v2 iv0 hf
def f_GR_lay (σ : Sg) (v1 : Int32) (v2 : Int32) (v3 : Int32) (v4 : Int32) : Option (Int32 × Sg) :=
  if (f_GR_isBelow v1 4) = 0 then
    some ((-2), σ)
  else
    if (f_GR_isBelow v2 3) = 0 then
      some ((-2), σ)
    else
      if (f_Ss_findingAt σ v1 v2 v3) = 0 then
        (f_Sh_put σ (f_Ss_at v1) v3 v4).bind fun σ5 =>
          some (1, σ5)
      else
        bd (f_Ss_find σ (f_Ss_findingAt σ v1 v2 v3)) fun r8 σ7 =>
          some (r8, σ7)
set_option maxHeartbeats 4000000 in
theorem j_GR_lay {V : Vx} {X : Xx} {r : Int32} {σ' : Sg} (σ : Sg) (v1 : Int32) (v2 : Int32) (v3 : Int32) (v4 : Int32) (hf : f_GR_lay σ v1 v2 v3 v4 = some (r, σ')) : J V X (k2_rm 3 67) c_GR_lay R_GR 6 (some .int) (Qr V X (some (.int r)) σ') σ 0 [(0, rf V 0), (1, .int v1), (2, .int v2), (3, .int v3), (4, .int v4)] [] := by
  unfold f_GR_lay at hf
  refine J_iload_n (pc' := 1) d_GR_lay_0 rfl 1 rfl ?_
  refine J_iconst (pc' := 2) (v := 4) d_GR_lay_1 rfl ic_4 ?_
  refine J_S (pc' := 5) (as := [.int v1, .int 4]) (rest := []) (st' := [.int (f_GR_isBelow v1 4)]) d_GR_lay_2 rfl ms_GR_67 (ct_GR_isBelow V _ σ v1 4) rfl rfl ⟨Nat.le_of_ble_eq_true rfl, Nat.le_of_ble_eq_true rfl⟩ ⟨rfl, rfl⟩ (Nat.le_of_ble_eq_true rfl) rfl ?_
  refine J_if_eq (pc' := 8) (tgt := 16) d_GR_lay_5 rfl (by decide) (fun hc1 => ?_) (fun hc1 => ?_)
  · have hf := brT hc1 hf
    refine J_bipush (pc' := 18) (v := (-2)) d_GR_lay_16 rfl bc_m2 ?_
    obtain ⟨rfl, rfl⟩ := resE hf
    exact J_iret d_GR_lay_18
  · have hf := brF hc1 hf
    refine J_iload_n (pc' := 9) d_GR_lay_8 rfl 2 rfl ?_
    refine J_iconst (pc' := 10) (v := 3) d_GR_lay_9 rfl ic_3 ?_
    refine J_S (pc' := 13) (as := [.int v2, .int 3]) (rest := []) (st' := [.int (f_GR_isBelow v2 3)]) d_GR_lay_10 rfl ms_GR_67 (ct_GR_isBelow V _ σ v2 3) rfl rfl ⟨Nat.le_of_ble_eq_true rfl, Nat.le_of_ble_eq_true rfl⟩ ⟨rfl, rfl⟩ (Nat.le_of_ble_eq_true rfl) rfl ?_
    refine J_if_ne (pc' := 16) (tgt := 19) d_GR_lay_13 rfl (by decide) (fun hc2 => ?_) (fun hc2 => ?_)
    · have hf := brF hc2 hf
      refine J_aload_n (pc' := 20) d_GR_lay_19 rfl 0 rfl ?_
      refine J_getR (pc' := 23) d_GR_lay_20 rfl sh_0 fl_GR_63 rfl ?_
      refine J_iload_n (pc' := 24) d_GR_lay_23 rfl 1 rfl ?_
      refine J_iload_n (pc' := 25) d_GR_lay_24 rfl 2 rfl ?_
      refine J_iload_n (pc' := 26) d_GR_lay_25 rfl 3 rfl ?_
      refine J_V (pc' := 29) (as := [.int v1, .int v2, .int v3]) (rest := []) (st' := [.int (f_Ss_findingAt σ v1 v2 v3)]) d_GR_lay_26 rfl sh_54 rfl mv_GR_267 (ct_Ss_findingAt V _ σ v1 v2 v3) rfl rfl ⟨Nat.le_of_ble_eq_true rfl, Nat.le_of_ble_eq_true rfl⟩ ⟨rfl, rfl⟩ (Nat.le_of_ble_eq_true rfl) rfl ?_
      refine J_istore (pc' := 31) (lv' := [(5, .int (f_Ss_findingAt σ v1 v2 v3)), (0, rf V 0), (1, .int v1), (2, .int v2), (3, .int v3), (4, .int v4)]) d_GR_lay_29 rfl (by decide) rfl ?_
      refine J_iload (pc' := 33) d_GR_lay_31 rfl 0 rfl ?_
      refine J_if_eq (pc' := 36) (tgt := 46) d_GR_lay_33 rfl (by decide) (fun hc3 => ?_) (fun hc3 => ?_)
      · have hf := brT hc3 hf
        refine J_aload_n (pc' := 47) d_GR_lay_46 rfl 1 rfl ?_
        refine J_getR (pc' := 50) d_GR_lay_47 rfl sh_0 fl_GR_63 rfl ?_
        refine J_iload_n (pc' := 51) d_GR_lay_50 rfl 2 rfl ?_
        refine J_V (pc' := 54) (as := [.int v1]) (rest := []) (st' := [rf V (f_Ss_at v1)]) d_GR_lay_51 rfl sh_54 rfl mv_GR_157 (ct_Ss_at V _ σ v1) rfl rfl ⟨Nat.le_of_ble_eq_true rfl, Nat.le_of_ble_eq_true rfl⟩ ⟨rfl, rfl⟩ (Nat.le_of_ble_eq_true rfl) rfl ?_
        refine J_iload_n (pc' := 55) d_GR_lay_54 rfl 4 rfl ?_
        refine J_iload (pc' := 57) d_GR_lay_55 rfl 5 rfl ?_
        obtain ⟨σ5, hq4, hf⟩ := bpE hf
        refine J_V (pc' := 60) (as := [.int v3, .int v4]) (rest := []) (st' := []) d_GR_lay_57 rfl (sh_Sh (is_Ss_at v1)) rfl mv_GR_271 (ct_Sh_put V _ σ (f_Ss_at v1) v3 v4 (is_Ss_at v1) hq4) rfl rfl ⟨Nat.le_of_ble_eq_true rfl, Nat.le_of_ble_eq_true rfl⟩ ⟨rfl, rfl⟩ (Nat.le_of_ble_eq_true rfl) rfl ?_
        refine J_iconst (pc' := 61) (v := 1) d_GR_lay_60 rfl ic_1 ?_
        obtain ⟨rfl, rfl⟩ := resE hf
        exact J_iret d_GR_lay_61
      · have hf := brF hc3 hf
        refine J_aload_n (pc' := 37) d_GR_lay_36 rfl 1 rfl ?_
        refine J_getR (pc' := 40) d_GR_lay_37 rfl sh_0 fl_GR_63 rfl ?_
        refine J_iload (pc' := 42) d_GR_lay_40 rfl 0 rfl ?_
        obtain ⟨r8, σ7, hq6, hf⟩ := bdE hf
        refine J_V (pc' := 45) (as := [.int (f_Ss_findingAt σ v1 v2 v3)]) (rest := []) (st' := [.int r8]) d_GR_lay_42 rfl sh_54 rfl mv_GR_165 (ct_Ss_find V _ σ (f_Ss_findingAt σ v1 v2 v3) hq6) rfl rfl ⟨Nat.le_of_ble_eq_true rfl, Nat.le_of_ble_eq_true rfl⟩ ⟨rfl, rfl⟩ (Nat.le_of_ble_eq_true rfl) rfl ?_
        obtain ⟨rfl, rfl⟩ := resE hf
        exact J_iret d_GR_lay_45
    · have hf := brT hc2 hf
      refine J_bipush (pc' := 18) (v := (-2)) d_GR_lay_16 rfl bc_m2 ?_
      obtain ⟨rfl, rfl⟩ := resE hf
      exact J_iret d_GR_lay_18
theorem ct_GR_lay (V : Vx) (l : Launch) (σ : Sg) (v1 : Int32) (v2 : Int32) (v3 : Int32) (v4 : Int32) {r : Int32} {σ' : Sg} (hf : f_GR_lay σ v1 v2 v3 v4 = some (r, σ')) : Ct V l y_GR_lay c_GR_lay 6 (some .int) (k2_rm 3 67) [rf V 0, .int v1, .int v2, .int v3, .int v4] σ (some (.int r)) σ' := Ct.ofJ (by decide +kernel) (Nat.le_of_ble_eq_true rfl) fun X _ => j_GR_lay _ v1 v2 v3 v4 hf
def f_GR_get (σ : Sg) (v1 : Int32) (v2 : Int32) (v3 : Int32) : Option (Int32 × Sg) :=
  if (f_GR_isBelow v1 4) = 0 then
    some ((-2147483648), σ)
  else
    if (f_GR_isBelow v2 3) = 0 then
      some ((-2147483648), σ)
    else
      if (f_Ss_findingAt σ v1 v2 v3) = 0 then
        some (f_Sh_item σ (f_Ss_at v1) v3, σ)
      else
        bd (f_Ss_find σ (f_Ss_findingAt σ v1 v2 v3)) fun r6 σ5 =>
          some ((-2147483648), σ5)
set_option maxHeartbeats 4000000 in
theorem j_GR_get {V : Vx} {X : Xx} {r : Int32} {σ' : Sg} (σ : Sg) (v1 : Int32) (v2 : Int32) (v3 : Int32) (hf : f_GR_get σ v1 v2 v3 = some (r, σ')) : J V X (k2_rm 3 67) c_GR_get R_GR 5 (some .int) (Qr V X (some (.int r)) σ') σ 0 [(0, rf V 0), (1, .int v1), (2, .int v2), (3, .int v3)] [] := by
  unfold f_GR_get at hf
  refine J_iload_n (pc' := 1) d_GR_get_0 rfl 1 rfl ?_
  refine J_iconst (pc' := 2) (v := 4) d_GR_get_1 rfl ic_4 ?_
  refine J_S (pc' := 5) (as := [.int v1, .int 4]) (rest := []) (st' := [.int (f_GR_isBelow v1 4)]) d_GR_get_2 rfl ms_GR_67 (ct_GR_isBelow V _ σ v1 4) rfl rfl ⟨Nat.le_of_ble_eq_true rfl, Nat.le_of_ble_eq_true rfl⟩ ⟨rfl, rfl⟩ (Nat.le_of_ble_eq_true rfl) rfl ?_
  refine J_if_eq (pc' := 8) (tgt := 16) d_GR_get_5 rfl (by decide) (fun hc1 => ?_) (fun hc1 => ?_)
  · have hf := brT hc1 hf
    refine J_ldcw (pc' := 19) (v := (-2147483648)) d_GR_get_16 rfl cw_GR_276 ?_
    obtain ⟨rfl, rfl⟩ := resE hf
    exact J_iret d_GR_get_19
  · have hf := brF hc1 hf
    refine J_iload_n (pc' := 9) d_GR_get_8 rfl 2 rfl ?_
    refine J_iconst (pc' := 10) (v := 3) d_GR_get_9 rfl ic_3 ?_
    refine J_S (pc' := 13) (as := [.int v2, .int 3]) (rest := []) (st' := [.int (f_GR_isBelow v2 3)]) d_GR_get_10 rfl ms_GR_67 (ct_GR_isBelow V _ σ v2 3) rfl rfl ⟨Nat.le_of_ble_eq_true rfl, Nat.le_of_ble_eq_true rfl⟩ ⟨rfl, rfl⟩ (Nat.le_of_ble_eq_true rfl) rfl ?_
    refine J_if_ne (pc' := 16) (tgt := 20) d_GR_get_13 rfl (by decide) (fun hc2 => ?_) (fun hc2 => ?_)
    · have hf := brF hc2 hf
      refine J_aload_n (pc' := 21) d_GR_get_20 rfl 0 rfl ?_
      refine J_getR (pc' := 24) d_GR_get_21 rfl sh_0 fl_GR_63 rfl ?_
      refine J_iload_n (pc' := 25) d_GR_get_24 rfl 1 rfl ?_
      refine J_iload_n (pc' := 26) d_GR_get_25 rfl 2 rfl ?_
      refine J_iload_n (pc' := 27) d_GR_get_26 rfl 3 rfl ?_
      refine J_V (pc' := 30) (as := [.int v1, .int v2, .int v3]) (rest := []) (st' := [.int (f_Ss_findingAt σ v1 v2 v3)]) d_GR_get_27 rfl sh_54 rfl mv_GR_267 (ct_Ss_findingAt V _ σ v1 v2 v3) rfl rfl ⟨Nat.le_of_ble_eq_true rfl, Nat.le_of_ble_eq_true rfl⟩ ⟨rfl, rfl⟩ (Nat.le_of_ble_eq_true rfl) rfl ?_
      refine J_istore (pc' := 32) (lv' := [(4, .int (f_Ss_findingAt σ v1 v2 v3)), (0, rf V 0), (1, .int v1), (2, .int v2), (3, .int v3)]) d_GR_get_30 rfl (by decide) rfl ?_
      refine J_iload (pc' := 34) d_GR_get_32 rfl 0 rfl ?_
      refine J_if_eq (pc' := 37) (tgt := 51) d_GR_get_34 rfl (by decide) (fun hc3 => ?_) (fun hc3 => ?_)
      · have hf := brT hc3 hf
        refine J_aload_n (pc' := 52) d_GR_get_51 rfl 1 rfl ?_
        refine J_getR (pc' := 55) d_GR_get_52 rfl sh_0 fl_GR_63 rfl ?_
        refine J_iload_n (pc' := 56) d_GR_get_55 rfl 2 rfl ?_
        refine J_V (pc' := 59) (as := [.int v1]) (rest := []) (st' := [rf V (f_Ss_at v1)]) d_GR_get_56 rfl sh_54 rfl mv_GR_157 (ct_Ss_at V _ σ v1) rfl rfl ⟨Nat.le_of_ble_eq_true rfl, Nat.le_of_ble_eq_true rfl⟩ ⟨rfl, rfl⟩ (Nat.le_of_ble_eq_true rfl) rfl ?_
        refine J_iload_n (pc' := 60) d_GR_get_59 rfl 4 rfl ?_
        refine J_V (pc' := 63) (as := [.int v3]) (rest := []) (st' := [.int (f_Sh_item σ (f_Ss_at v1) v3)]) d_GR_get_60 rfl (sh_Sh (is_Ss_at v1)) rfl mv_GR_169 (ct_Sh_item V _ σ (f_Ss_at v1) v3 (is_Ss_at v1)) rfl rfl ⟨Nat.le_of_ble_eq_true rfl, Nat.le_of_ble_eq_true rfl⟩ ⟨rfl, rfl⟩ (Nat.le_of_ble_eq_true rfl) rfl ?_
        obtain ⟨rfl, rfl⟩ := resE hf
        exact J_iret d_GR_get_63
      · have hf := brF hc3 hf
        refine J_aload_n (pc' := 38) d_GR_get_37 rfl 1 rfl ?_
        refine J_getR (pc' := 41) d_GR_get_38 rfl sh_0 fl_GR_63 rfl ?_
        refine J_iload (pc' := 43) d_GR_get_41 rfl 0 rfl ?_
        obtain ⟨r6, σ5, hq4, hf⟩ := bdE hf
        refine J_V (pc' := 46) (as := [.int (f_Ss_findingAt σ v1 v2 v3)]) (rest := []) (st' := [.int r6]) d_GR_get_43 rfl sh_54 rfl mv_GR_165 (ct_Ss_find V _ σ (f_Ss_findingAt σ v1 v2 v3) hq4) rfl rfl ⟨Nat.le_of_ble_eq_true rfl, Nat.le_of_ble_eq_true rfl⟩ ⟨rfl, rfl⟩ (Nat.le_of_ble_eq_true rfl) rfl ?_
        refine J_pop (pc' := 47) d_GR_get_46 rfl rfl ?_
        refine J_ldcw (pc' := 50) (v := (-2147483648)) d_GR_get_47 rfl cw_GR_276 ?_
        obtain ⟨rfl, rfl⟩ := resE hf
        exact J_iret d_GR_get_50
    · have hf := brT hc2 hf
      refine J_ldcw (pc' := 19) (v := (-2147483648)) d_GR_get_16 rfl cw_GR_276 ?_
      obtain ⟨rfl, rfl⟩ := resE hf
      exact J_iret d_GR_get_19
theorem ct_GR_get (V : Vx) (l : Launch) (σ : Sg) (v1 : Int32) (v2 : Int32) (v3 : Int32) {r : Int32} {σ' : Sg} (hf : f_GR_get σ v1 v2 v3 = some (r, σ')) : Ct V l y_GR_get c_GR_get 5 (some .int) (k2_rm 3 67) [rf V 0, .int v1, .int v2, .int v3] σ (some (.int r)) σ' := Ct.ofJ (by decide +kernel) (Nat.le_of_ble_eq_true rfl) fun X _ => j_GR_get _ v1 v2 v3 hf
def f_Sh_hasRun (σ : Sg) (v0 : Nat) (v1 : Int32) (v2 : Int32) : Int32 :=
  if v1 < 0 then 0 else if v2 < 0 then 0 else if ((σ.1 v0 2) - v1) < v2 then 0 else 1
set_option maxHeartbeats 4000000 in
theorem j_Sh_hasRun {V : Vx} {X : Xx} {r : Int32} (σ : Sg) (v0 : Nat) (v1 : Int32) (v2 : Int32) (iv0 : is_Sh v0) (hf : f_Sh_hasRun σ v0 v1 v2 = r) : J V X (k2_rm 0 0) c_Sh_hasRun R_Sh 3 (some .boolean) (Qr V X (some (.int r)) σ) σ 0 [(0, rf V v0), (1, .int v1), (2, .int v2)] [] := by
  unfold f_Sh_hasRun at hf
  refine J_iload_n (pc' := 1) d_Sh_hasRun_0 rfl 1 rfl ?_
  refine J_if_lt (pc' := 4) (tgt := 22) d_Sh_hasRun_1 rfl (by decide) (fun hc1 => ?_) (fun hc1 => ?_)
  · have hf := brT hc1 hf
    refine J_iconst (pc' := 23) (v := 0) d_Sh_hasRun_22 rfl ic_0 ?_
    subst hf
    exact J_zret (by decide) d_Sh_hasRun_23
  · have hf := brF hc1 hf
    refine J_iload_n (pc' := 5) d_Sh_hasRun_4 rfl 2 rfl ?_
    refine J_if_lt (pc' := 8) (tgt := 22) d_Sh_hasRun_5 rfl (by decide) (fun hc2 => ?_) (fun hc2 => ?_)
    · have hf := brT hc2 hf
      refine J_iconst (pc' := 23) (v := 0) d_Sh_hasRun_22 rfl ic_0 ?_
      subst hf
      exact J_zret (by decide) d_Sh_hasRun_23
    · have hf := brF hc2 hf
      refine J_iload_n (pc' := 9) d_Sh_hasRun_8 rfl 2 rfl ?_
      refine J_aload_n (pc' := 10) d_Sh_hasRun_9 rfl 0 rfl ?_
      refine J_getI (pc' := 13) d_Sh_hasRun_10 rfl (sh_Sh iv0) fl_Sh_28 rfl ?_
      refine J_iload_n (pc' := 14) d_Sh_hasRun_13 rfl 1 rfl ?_
      refine J_isub (pc' := 15) d_Sh_hasRun_14 rfl ?_
      refine J_icmp_gt (pc' := 18) (tgt := 22) d_Sh_hasRun_15 rfl (by decide) (fun hc3 => ?_) (fun hc3 => ?_)
      · have hf := brT hc3 hf
        refine J_iconst (pc' := 23) (v := 0) d_Sh_hasRun_22 rfl ic_0 ?_
        subst hf
        exact J_zret (by decide) d_Sh_hasRun_23
      · have hf := brF hc3 hf
        refine J_iconst (pc' := 19) (v := 1) d_Sh_hasRun_18 rfl ic_1 ?_
        refine J_goto (tgt := 23) d_Sh_hasRun_19 (by decide) ?_
        subst hf
        exact J_zret (by decide) d_Sh_hasRun_23
theorem ct_Sh_hasRun (V : Vx) (l : Launch) (σ : Sg) (v0 : Nat) (v1 : Int32) (v2 : Int32) (iv0 : is_Sh v0) : Ct V l y_Sh_hasRun c_Sh_hasRun 3 (some .boolean) (k2_rm 0 0) [rf V v0, .int v1, .int v2] σ (some (.int (f_Sh_hasRun σ v0 v1 v2))) σ := Ct.ofJ (by decide +kernel) (Nat.le_of_ble_eq_true rfl) fun X _ => j_Sh_hasRun _ v0 v1 v2 iv0 rfl
def f_GR_copy_55 (σ : Sg)  : Option (Int32 × Sg) :=
  bd (f_Ss_find σ 1) fun r6 σ5 =>
    some (r6, σ5)
set_option maxHeartbeats 4000000 in
theorem j_GR_copy_55 {V : Vx} {X : Xx} {r : Int32} {σ' : Sg}  (σ : Sg) (hf : f_GR_copy_55 σ = some (r, σ')) : J V X (k2_rm 2 60) c_GR_copy R_GR 8 (some .int) (Qr V X (some (.int r)) σ') σ 55 [(0, rf V 0)] [] := by
  unfold f_GR_copy_55 at hf
  refine J_aload_n (pc' := 56) d_GR_copy_55 rfl 0 rfl ?_
  refine J_getR (pc' := 59) d_GR_copy_56 rfl sh_0 fl_GR_63 rfl ?_
  refine J_iconst (pc' := 60) (v := 1) d_GR_copy_59 rfl ic_1 ?_
  obtain ⟨r6, σ5, hq4, hf⟩ := bdE hf
  refine J_V (pc' := 63) (as := [.int 1]) (rest := []) (st' := [.int r6]) d_GR_copy_60 rfl sh_54 rfl mv_GR_165 (ct_Ss_find V _ σ 1 hq4) rfl rfl ⟨Nat.le_of_ble_eq_true rfl, Nat.le_of_ble_eq_true rfl⟩ ⟨rfl, rfl⟩ (Nat.le_of_ble_eq_true rfl) rfl ?_
  obtain ⟨rfl, rfl⟩ := resE hf
  exact J_iret d_GR_copy_63
def f_GR_copy_109 (σ : Sg)  : Option (Int32 × Sg) :=
  bd (f_Ss_find σ 2) fun r12 σ11 =>
    some (r12, σ11)
set_option maxHeartbeats 4000000 in
theorem j_GR_copy_109 {V : Vx} {X : Xx} {r : Int32} {σ' : Sg}  (σ : Sg) (hf : f_GR_copy_109 σ = some (r, σ')) : J V X (k2_rm 2 60) c_GR_copy R_GR 8 (some .int) (Qr V X (some (.int r)) σ') σ 109 [(0, rf V 0)] [] := by
  unfold f_GR_copy_109 at hf
  refine J_aload_n (pc' := 110) d_GR_copy_109 rfl 0 rfl ?_
  refine J_getR (pc' := 113) d_GR_copy_110 rfl sh_0 fl_GR_63 rfl ?_
  refine J_iconst (pc' := 114) (v := 2) d_GR_copy_113 rfl ic_2 ?_
  obtain ⟨r12, σ11, hq10, hf⟩ := bdE hf
  refine J_V (pc' := 117) (as := [.int 2]) (rest := []) (st' := [.int r12]) d_GR_copy_114 rfl sh_54 rfl mv_GR_165 (ct_Ss_find V _ σ 2 hq10) rfl rfl ⟨Nat.le_of_ble_eq_true rfl, Nat.le_of_ble_eq_true rfl⟩ ⟨rfl, rfl⟩ (Nat.le_of_ble_eq_true rfl) rfl ?_
  obtain ⟨rfl, rfl⟩ := resE hf
  exact J_iret d_GR_copy_117
def f_GR_copy (σ : Sg) (v1 : Int32) (v2 : Int32) (v3 : Int32) (v4 : Int32) (v5 : Int32) : Option (Int32 × Sg) :=
  if (f_GR_isBelow v1 4) = 0 then
    some ((-2), σ)
  else
    if (f_GR_isBelow v3 4) = 0 then
      some ((-2), σ)
    else
      if (f_Sh_isLost σ (f_Ss_at v1)) = 0 then
        if (f_Sh_isLost σ (f_Ss_at v3)) = 0 then
          if (σ.1 (f_Ss_at v1) 1) = (σ.1 (f_Ss_at v3) 1) then
            if (f_Sh_hasRun σ (f_Ss_at v1) v2 v5) = 0 then
              f_GR_copy_109 σ
            else
              if (f_Sh_hasRun σ (f_Ss_at v3) v4 v5) = 0 then
                f_GR_copy_109 σ
              else
                gd (cpok v2 v4 v5) (
                  some (1, (pC σ ((f_Ss_at v1) + 1) ((f_Ss_at v3) + 1) v2.toNatClampNeg v4.toNatClampNeg v5.toNatClampNeg)))
          else
            bd (f_Ss_find σ 4) fun r17 σ16 =>
              some (r17, σ16)
        else
          f_GR_copy_55 σ
      else
        f_GR_copy_55 σ
set_option maxHeartbeats 4000000 in
theorem j_GR_copy {V : Vx} {X : Xx} {r : Int32} {σ' : Sg} (σ : Sg) (v1 : Int32) (v2 : Int32) (v3 : Int32) (v4 : Int32) (v5 : Int32) (hf : f_GR_copy σ v1 v2 v3 v4 v5 = some (r, σ')) : J V X (k2_rm 2 60) c_GR_copy R_GR 8 (some .int) (Qr V X (some (.int r)) σ') σ 0 [(0, rf V 0), (1, .int v1), (2, .int v2), (3, .int v3), (4, .int v4), (5, .int v5)] [] := by
  unfold f_GR_copy at hf
  refine J_iload_n (pc' := 1) d_GR_copy_0 rfl 1 rfl ?_
  refine J_iconst (pc' := 2) (v := 4) d_GR_copy_1 rfl ic_4 ?_
  refine J_S (pc' := 5) (as := [.int v1, .int 4]) (rest := []) (st' := [.int (f_GR_isBelow v1 4)]) d_GR_copy_2 rfl ms_GR_67 (ct_GR_isBelow V _ σ v1 4) rfl rfl ⟨Nat.le_of_ble_eq_true rfl, Nat.le_of_ble_eq_true rfl⟩ ⟨rfl, rfl⟩ (Nat.le_of_ble_eq_true rfl) rfl ?_
  refine J_if_eq (pc' := 8) (tgt := 16) d_GR_copy_5 rfl (by decide) (fun hc1 => ?_) (fun hc1 => ?_)
  · have hf := brT hc1 hf
    refine J_bipush (pc' := 18) (v := (-2)) d_GR_copy_16 rfl bc_m2 ?_
    obtain ⟨rfl, rfl⟩ := resE hf
    exact J_iret d_GR_copy_18
  · have hf := brF hc1 hf
    refine J_iload_n (pc' := 9) d_GR_copy_8 rfl 3 rfl ?_
    refine J_iconst (pc' := 10) (v := 4) d_GR_copy_9 rfl ic_4 ?_
    refine J_S (pc' := 13) (as := [.int v3, .int 4]) (rest := []) (st' := [.int (f_GR_isBelow v3 4)]) d_GR_copy_10 rfl ms_GR_67 (ct_GR_isBelow V _ σ v3 4) rfl rfl ⟨Nat.le_of_ble_eq_true rfl, Nat.le_of_ble_eq_true rfl⟩ ⟨rfl, rfl⟩ (Nat.le_of_ble_eq_true rfl) rfl ?_
    refine J_if_ne (pc' := 16) (tgt := 19) d_GR_copy_13 rfl (by decide) (fun hc2 => ?_) (fun hc2 => ?_)
    · have hf := brF hc2 hf
      refine J_aload_n (pc' := 20) d_GR_copy_19 rfl 0 rfl ?_
      refine J_getR (pc' := 23) d_GR_copy_20 rfl sh_0 fl_GR_63 rfl ?_
      refine J_iload_n (pc' := 24) d_GR_copy_23 rfl 1 rfl ?_
      refine J_V (pc' := 27) (as := [.int v1]) (rest := []) (st' := [rf V (f_Ss_at v1)]) d_GR_copy_24 rfl sh_54 rfl mv_GR_157 (ct_Ss_at V _ σ v1) rfl rfl ⟨Nat.le_of_ble_eq_true rfl, Nat.le_of_ble_eq_true rfl⟩ ⟨rfl, rfl⟩ (Nat.le_of_ble_eq_true rfl) rfl ?_
      refine J_astore (pc' := 29) (lv' := [(6, rf V (f_Ss_at v1)), (0, rf V 0), (1, .int v1), (2, .int v2), (3, .int v3), (4, .int v4), (5, .int v5)]) d_GR_copy_27 rfl (by decide) rfl ?_
      refine J_aload_n (pc' := 30) d_GR_copy_29 rfl 1 rfl ?_
      refine J_getR (pc' := 33) d_GR_copy_30 rfl sh_0 fl_GR_63 rfl ?_
      refine J_iload_n (pc' := 34) d_GR_copy_33 rfl 4 rfl ?_
      refine J_V (pc' := 37) (as := [.int v3]) (rest := []) (st' := [rf V (f_Ss_at v3)]) d_GR_copy_34 rfl sh_54 rfl mv_GR_157 (ct_Ss_at V _ σ v3) rfl rfl ⟨Nat.le_of_ble_eq_true rfl, Nat.le_of_ble_eq_true rfl⟩ ⟨rfl, rfl⟩ (Nat.le_of_ble_eq_true rfl) rfl ?_
      refine J_astore (pc' := 39) (lv' := [(7, rf V (f_Ss_at v3)), (6, rf V (f_Ss_at v1)), (0, rf V 0), (1, .int v1), (2, .int v2), (3, .int v3), (4, .int v4), (5, .int v5)]) d_GR_copy_37 rfl (by decide) rfl ?_
      refine J_aload (pc' := 41) d_GR_copy_39 rfl 1 rfl ?_
      refine J_V (pc' := 44) (as := []) (rest := []) (st' := [.int (f_Sh_isLost σ (f_Ss_at v1))]) d_GR_copy_41 rfl (sh_Sh (is_Ss_at v1)) rfl mv_GR_160 (ct_Sh_isLost V _ σ (f_Ss_at v1) (is_Ss_at v1)) rfl rfl ⟨Nat.le_of_ble_eq_true rfl, Nat.le_of_ble_eq_true rfl⟩ ⟨rfl, rfl⟩ (Nat.le_of_ble_eq_true rfl) rfl ?_
      refine J_if_ne (pc' := 47) (tgt := 55) d_GR_copy_44 rfl (by decide) (fun hc3 => ?_) (fun hc3 => ?_)
      · have hf := brF hc3 hf
        refine J_pick [2] rfl ?_
        exact j_GR_copy_55 _ hf
      · have hf := brT hc3 hf
        refine J_aload (pc' := 49) d_GR_copy_47 rfl 0 rfl ?_
        refine J_V (pc' := 52) (as := []) (rest := []) (st' := [.int (f_Sh_isLost σ (f_Ss_at v3))]) d_GR_copy_49 rfl (sh_Sh (is_Ss_at v3)) rfl mv_GR_160 (ct_Sh_isLost V _ σ (f_Ss_at v3) (is_Ss_at v3)) rfl rfl ⟨Nat.le_of_ble_eq_true rfl, Nat.le_of_ble_eq_true rfl⟩ ⟨rfl, rfl⟩ (Nat.le_of_ble_eq_true rfl) rfl ?_
        refine J_if_eq (pc' := 55) (tgt := 64) d_GR_copy_52 rfl (by decide) (fun hc7 => ?_) (fun hc7 => ?_)
        · have hf := brT hc7 hf
          refine J_aload (pc' := 66) d_GR_copy_64 rfl 1 rfl ?_
          refine J_getI (pc' := 69) d_GR_copy_66 rfl (sh_Sh (is_Ss_at v1)) fl_GR_277 rfl ?_
          refine J_aload (pc' := 71) d_GR_copy_69 rfl 0 rfl ?_
          refine J_getI (pc' := 74) d_GR_copy_71 rfl (sh_Sh (is_Ss_at v3)) fl_GR_277 rfl ?_
          refine J_icmp_eq (pc' := 77) (tgt := 86) d_GR_copy_74 rfl (by decide) (fun hc8 => ?_) (fun hc8 => ?_)
          · have hf := brT hc8 hf
            refine J_aload (pc' := 88) d_GR_copy_86 rfl 1 rfl ?_
            refine J_iload_n (pc' := 89) d_GR_copy_88 rfl 4 rfl ?_
            refine J_iload (pc' := 91) d_GR_copy_89 rfl 7 rfl ?_
            refine J_V (pc' := 94) (as := [.int v2, .int v5]) (rest := []) (st' := [.int (f_Sh_hasRun σ (f_Ss_at v1) v2 v5)]) d_GR_copy_91 rfl (sh_Sh (is_Ss_at v1)) rfl mv_GR_280 (ct_Sh_hasRun V _ σ (f_Ss_at v1) v2 v5 (is_Ss_at v1)) rfl rfl ⟨Nat.le_of_ble_eq_true rfl, Nat.le_of_ble_eq_true rfl⟩ ⟨rfl, rfl⟩ (Nat.le_of_ble_eq_true rfl) rfl ?_
            refine J_if_eq (pc' := 97) (tgt := 109) d_GR_copy_94 rfl (by decide) (fun hc9 => ?_) (fun hc9 => ?_)
            · have hf := brT hc9 hf
              refine J_pick [2] rfl ?_
              exact j_GR_copy_109 _ hf
            · have hf := brF hc9 hf
              refine J_aload (pc' := 99) d_GR_copy_97 rfl 0 rfl ?_
              refine J_iload (pc' := 101) d_GR_copy_99 rfl 6 rfl ?_
              refine J_iload (pc' := 103) d_GR_copy_101 rfl 7 rfl ?_
              refine J_V (pc' := 106) (as := [.int v4, .int v5]) (rest := []) (st' := [.int (f_Sh_hasRun σ (f_Ss_at v3) v4 v5)]) d_GR_copy_103 rfl (sh_Sh (is_Ss_at v3)) rfl mv_GR_280 (ct_Sh_hasRun V _ σ (f_Ss_at v3) v4 v5 (is_Ss_at v3)) rfl rfl ⟨Nat.le_of_ble_eq_true rfl, Nat.le_of_ble_eq_true rfl⟩ ⟨rfl, rfl⟩ (Nat.le_of_ble_eq_true rfl) rfl ?_
              refine J_if_ne (pc' := 109) (tgt := 118) d_GR_copy_106 rfl (by decide) (fun hc13 => ?_) (fun hc13 => ?_)
              · have hf := brF hc13 hf
                refine J_aload (pc' := 120) d_GR_copy_118 rfl 1 rfl ?_
                refine J_getR (pc' := 123) d_GR_copy_120 rfl (sh_Sh (is_Ss_at v1)) fl_GR_283 rfl ?_
                refine J_iload_n (pc' := 124) d_GR_copy_123 rfl 4 rfl ?_
                refine J_aload (pc' := 126) d_GR_copy_124 rfl 0 rfl ?_
                refine J_getR (pc' := 129) d_GR_copy_126 rfl (sh_Sh (is_Ss_at v3)) fl_GR_283 rfl ?_
                refine J_iload (pc' := 131) d_GR_copy_129 rfl 6 rfl ?_
                refine J_iload (pc' := 133) d_GR_copy_131 rfl 7 rfl ?_
                obtain ⟨hg14, hf⟩ := gdE hf
                refine J_copy (pc' := 136) d_GR_copy_133 rfl (sh_Sh_a (is_Ss_at v1)) (sh_Sh_a (is_Ss_at v3)) al_GR_286 al_nat al_st al_in hg14 (Nat.le_of_ble_eq_true rfl) (by decide +kernel) ?_
                refine J_iconst (pc' := 137) (v := 1) d_GR_copy_136 rfl ic_1 ?_
                obtain ⟨rfl, rfl⟩ := resE hf
                exact J_iret d_GR_copy_137
              · have hf := brT hc13 hf
                refine J_pick [2] rfl ?_
                exact j_GR_copy_109 _ hf
          · have hf := brF hc8 hf
            refine J_aload_n (pc' := 78) d_GR_copy_77 rfl 2 rfl ?_
            refine J_getR (pc' := 81) d_GR_copy_78 rfl sh_0 fl_GR_63 rfl ?_
            refine J_iconst (pc' := 82) (v := 4) d_GR_copy_81 rfl ic_4 ?_
            obtain ⟨r17, σ16, hq15, hf⟩ := bdE hf
            refine J_V (pc' := 85) (as := [.int 4]) (rest := []) (st' := [.int r17]) d_GR_copy_82 rfl sh_54 rfl mv_GR_165 (ct_Ss_find V _ σ 4 hq15) rfl rfl ⟨Nat.le_of_ble_eq_true rfl, Nat.le_of_ble_eq_true rfl⟩ ⟨rfl, rfl⟩ (Nat.le_of_ble_eq_true rfl) rfl ?_
            obtain ⟨rfl, rfl⟩ := resE hf
            exact J_iret d_GR_copy_85
        · have hf := brF hc7 hf
          refine J_pick [2] rfl ?_
          exact j_GR_copy_55 _ hf
    · have hf := brT hc2 hf
      refine J_bipush (pc' := 18) (v := (-2)) d_GR_copy_16 rfl bc_m2 ?_
      obtain ⟨rfl, rfl⟩ := resE hf
      exact J_iret d_GR_copy_18
theorem ct_GR_copy (V : Vx) (l : Launch) (σ : Sg) (v1 : Int32) (v2 : Int32) (v3 : Int32) (v4 : Int32) (v5 : Int32) {r : Int32} {σ' : Sg} (hf : f_GR_copy σ v1 v2 v3 v4 v5 = some (r, σ')) : Ct V l y_GR_copy c_GR_copy 8 (some .int) (k2_rm 2 60) [rf V 0, .int v1, .int v2, .int v3, .int v4, .int v5] σ (some (.int r)) σ' := Ct.ofJ (by decide +kernel) (Nat.le_of_ble_eq_true rfl) fun X _ => j_GR_copy _ v1 v2 v3 v4 v5 hf
def f_GR_write_75 : Nat → Sg → Nat → Int32 → Int32 → Option (Int32 × Sg)
  | 0, _, _, _, _ => none
  | n + 1, σ, v2, v3, v4 =>
    if v3 ≤ v4 then
      some (v3, σ)
    else
      (f_Sh_put σ v2 v4 (f_Tt_startOf σ v4)).bind fun σ7 =>
        f_GR_write_75 n σ7 v2 v3 (v4 + 1)
theorem f_GR_write_75_s (n : Nat) (σ : Sg) (v2 : Nat) (v3 : Int32) (v4 : Int32) : f_GR_write_75 (n + 1) σ v2 v3 v4 =
    if v3 ≤ v4 then
      some (v3, σ)
    else
      (f_Sh_put σ v2 v4 (f_Tt_startOf σ v4)).bind fun σ7 =>
        f_GR_write_75 n σ7 v2 v3 (v4 + 1) := rfl
set_option maxHeartbeats 4000000 in
theorem j_GR_write_75 {V : Vx} {X : Xx} {r : Int32} {σ' : Sg}  : ∀ (n : Nat) (σ : Sg) (v2 : Nat) (v3 : Int32) (v4 : Int32) (iv2 : is_Sh v2), f_GR_write_75 n σ v2 v3 v4 = some (r, σ') → J V X (k2_rm 7 176) c_GR_write R_GR 5 (some .int) (Qr V X (some (.int r)) σ') σ 75 [(0, rf V 0), (2, rf V v2), (3, .int v3), (4, .int v4)] [] := by
  intro n
  induction n with
  | zero => intro σ v2 v3 v4 iv2 hf; exact nn hf
  | succ n ih =>
    intro σ v2 v3 v4 iv2 hf
    rw [f_GR_write_75_s] at hf
    refine J_iload (pc' := 77) d_GR_write_75 rfl 3 rfl ?_
    refine J_iload_n (pc' := 78) d_GR_write_77 rfl 2 rfl ?_
    refine J_icmp_ge (pc' := 81) (tgt := 102) d_GR_write_78 rfl (by decide) (fun hc5 => ?_) (fun hc5 => ?_)
    · have hf := brT hc5 hf
      refine J_iload_n (pc' := 103) d_GR_write_102 rfl 2 rfl ?_
      obtain ⟨rfl, rfl⟩ := resE hf
      exact J_iret d_GR_write_103
    · have hf := brF hc5 hf
      refine J_aload_n (pc' := 82) d_GR_write_81 rfl 1 rfl ?_
      refine J_iload (pc' := 84) d_GR_write_82 rfl 3 rfl ?_
      refine J_aload_n (pc' := 85) d_GR_write_84 rfl 0 rfl ?_
      refine J_getR (pc' := 88) d_GR_write_85 rfl sh_0 fl_GR_42 rfl ?_
      refine J_iload (pc' := 90) d_GR_write_88 rfl 3 rfl ?_
      refine J_V (pc' := 93) (as := [.int v4]) (rest := [.int v4, rf V v2]) (st' := [.int (f_Tt_startOf σ v4), .int v4, rf V v2]) d_GR_write_90 rfl sh_41 rfl mv_GR_195 (ct_Tt_startOf V _ σ v4) rfl rfl ⟨Nat.le_of_ble_eq_true rfl, Nat.le_of_ble_eq_true rfl⟩ ⟨rfl, rfl⟩ (Nat.le_of_ble_eq_true rfl) rfl ?_
      obtain ⟨σ7, hq6, hf⟩ := bpE hf
      refine J_V (pc' := 96) (as := [.int v4, .int (f_Tt_startOf σ v4)]) (rest := []) (st' := []) d_GR_write_93 rfl (sh_Sh iv2) rfl mv_GR_271 (ct_Sh_put V _ σ v2 v4 (f_Tt_startOf σ v4) iv2 hq6) rfl rfl ⟨Nat.le_of_ble_eq_true rfl, Nat.le_of_ble_eq_true rfl⟩ ⟨rfl, rfl⟩ (Nat.le_of_ble_eq_true rfl) rfl ?_
      refine J_iinc (pc' := 99) (j := 3) (v := 1) (lv' := [(4, .int (v4 + 1)), (0, rf V 0), (2, rf V v2), (3, .int v3)]) d_GR_write_96 rfl rfl ic_1 (by decide) rfl ?_
      refine J_goto (tgt := 75) d_GR_write_99 (by decide) ?_
      refine J_pick [1, 2, 3, 0] rfl ?_
      exact ih _ _ _ _ iv2 hf
def f_GR_write (σ : Sg) (v1 : Int32) : Option (Int32 × Sg) :=
  if (f_GR_isBelow v1 4) = 0 then
    some ((-2), σ)
  else
    if (f_Sh_isLost σ (f_Ss_at v1)) = 0 then
      (f_Tt_beginWithoutClash σ (σ.1 17 0)).bind fun σ4 =>
        f_GR_write_75 FU σ4 (f_Ss_at v1) (f_JM_min (σ4.1 (f_Ss_at v1) 2) (σ4.1 18 2)) 0
    else
      bd (f_Ss_find σ 1) fun r10 σ9 =>
        some (r10, σ9)
set_option maxHeartbeats 4000000 in
theorem j_GR_write {V : Vx} {X : Xx} {r : Int32} {σ' : Sg} (σ : Sg) (v1 : Int32) (hf : f_GR_write σ v1 = some (r, σ')) : J V X (k2_rm 7 176) c_GR_write R_GR 5 (some .int) (Qr V X (some (.int r)) σ') σ 0 [(0, rf V 0), (1, .int v1)] [] := by
  unfold f_GR_write at hf
  refine J_iload_n (pc' := 1) d_GR_write_0 rfl 1 rfl ?_
  refine J_iconst (pc' := 2) (v := 4) d_GR_write_1 rfl ic_4 ?_
  refine J_S (pc' := 5) (as := [.int v1, .int 4]) (rest := []) (st' := [.int (f_GR_isBelow v1 4)]) d_GR_write_2 rfl ms_GR_67 (ct_GR_isBelow V _ σ v1 4) rfl rfl ⟨Nat.le_of_ble_eq_true rfl, Nat.le_of_ble_eq_true rfl⟩ ⟨rfl, rfl⟩ (Nat.le_of_ble_eq_true rfl) rfl ?_
  refine J_if_ne (pc' := 8) (tgt := 11) d_GR_write_5 rfl (by decide) (fun hc1 => ?_) (fun hc1 => ?_)
  · have hf := brF hc1 hf
    refine J_aload_n (pc' := 12) d_GR_write_11 rfl 0 rfl ?_
    refine J_getR (pc' := 15) d_GR_write_12 rfl sh_0 fl_GR_63 rfl ?_
    refine J_iload_n (pc' := 16) d_GR_write_15 rfl 1 rfl ?_
    refine J_V (pc' := 19) (as := [.int v1]) (rest := []) (st' := [rf V (f_Ss_at v1)]) d_GR_write_16 rfl sh_54 rfl mv_GR_157 (ct_Ss_at V _ σ v1) rfl rfl ⟨Nat.le_of_ble_eq_true rfl, Nat.le_of_ble_eq_true rfl⟩ ⟨rfl, rfl⟩ (Nat.le_of_ble_eq_true rfl) rfl ?_
    refine J_astore_n (pc' := 20) (lv' := [(2, rf V (f_Ss_at v1)), (0, rf V 0), (1, .int v1)]) d_GR_write_19 rfl rfl (by decide) rfl ?_
    refine J_aload_n (pc' := 21) d_GR_write_20 rfl 0 rfl ?_
    refine J_V (pc' := 24) (as := []) (rest := []) (st' := [.int (f_Sh_isLost σ (f_Ss_at v1))]) d_GR_write_21 rfl (sh_Sh (is_Ss_at v1)) rfl mv_GR_160 (ct_Sh_isLost V _ σ (f_Ss_at v1) (is_Ss_at v1)) rfl rfl ⟨Nat.le_of_ble_eq_true rfl, Nat.le_of_ble_eq_true rfl⟩ ⟨rfl, rfl⟩ (Nat.le_of_ble_eq_true rfl) rfl ?_
    refine J_if_eq (pc' := 27) (tgt := 36) d_GR_write_24 rfl (by decide) (fun hc2 => ?_) (fun hc2 => ?_)
    · have hf := brT hc2 hf
      refine J_aload_n (pc' := 37) d_GR_write_36 rfl 1 rfl ?_
      refine J_getR (pc' := 40) d_GR_write_37 rfl sh_0 fl_GR_42 rfl ?_
      refine J_aload_n (pc' := 41) d_GR_write_40 rfl 1 rfl ?_
      refine J_getR (pc' := 44) d_GR_write_41 rfl sh_0 fl_GR_24 rfl ?_
      refine J_aload_n (pc' := 45) d_GR_write_44 rfl 1 rfl ?_
      refine J_getR (pc' := 48) d_GR_write_45 rfl sh_0 fl_GR_35 rfl ?_
      refine J_aload_n (pc' := 49) d_GR_write_48 rfl 1 rfl ?_
      refine J_getR (pc' := 52) d_GR_write_49 rfl sh_0 fl_GR_28 rfl ?_
      refine J_iconst (pc' := 53) (v := 0) d_GR_write_52 rfl ic_0 ?_
      refine J_ial (pc' := 54) d_GR_write_53 rfl sh_17 (vin_c (by decide)) ?_
      obtain ⟨σ4, hq3, hf⟩ := bpE hf
      refine J_V (pc' := 57) (as := [rf V 5, rf V 18, .int (σ.1 17 0)]) (rest := []) (st' := []) d_GR_write_54 rfl sh_41 rfl mv_GR_191 (ct_Tt_beginWithoutClash V _ σ (σ.1 17 0) hq3) rfl rfl ⟨Nat.le_of_ble_eq_true rfl, Nat.le_of_ble_eq_true rfl⟩ ⟨rfl, rfl⟩ (Nat.le_of_ble_eq_true rfl) rfl ?_
      refine J_aload_n (pc' := 58) d_GR_write_57 rfl 0 rfl ?_
      refine J_getI (pc' := 61) d_GR_write_58 rfl (sh_Sh (is_Ss_at v1)) fl_GR_168 rfl ?_
      refine J_aload_n (pc' := 62) d_GR_write_61 rfl 1 rfl ?_
      refine J_getR (pc' := 65) d_GR_write_62 rfl sh_0 fl_GR_35 rfl ?_
      refine J_getI (pc' := 68) d_GR_write_65 rfl sh_18 fl_GR_154 rfl ?_
      refine J_S (pc' := 71) (as := [.int (σ4.1 (f_Ss_at v1) 2), .int (σ4.1 18 2)]) (rest := []) (st' := [.int (f_JM_min (σ4.1 (f_Ss_at v1) 2) (σ4.1 18 2))]) d_GR_write_68 rfl ms_GR_292 (ct_JM_min V _ σ4 (σ4.1 (f_Ss_at v1) 2) (σ4.1 18 2)) rfl rfl ⟨Nat.le_of_ble_eq_true rfl, Nat.le_of_ble_eq_true rfl⟩ ⟨rfl, rfl⟩ (Nat.le_of_ble_eq_true rfl) rfl ?_
      refine J_istore_n (pc' := 72) (lv' := [(3, .int (f_JM_min (σ4.1 (f_Ss_at v1) 2) (σ4.1 18 2))), (2, rf V (f_Ss_at v1)), (0, rf V 0), (1, .int v1)]) d_GR_write_71 rfl rfl (by decide) rfl ?_
      refine J_iconst (pc' := 73) (v := 0) d_GR_write_72 rfl ic_0 ?_
      refine J_istore (pc' := 75) (lv' := [(4, .int 0), (3, .int (f_JM_min (σ4.1 (f_Ss_at v1) 2) (σ4.1 18 2))), (2, rf V (f_Ss_at v1)), (0, rf V 0), (1, .int v1)]) d_GR_write_73 rfl (by decide) rfl ?_
      refine J_pick [3, 2, 1, 0] rfl ?_
      exact j_GR_write_75 FU _ _ _ _ (is_Ss_at v1) hf
    · have hf := brF hc2 hf
      refine J_aload_n (pc' := 28) d_GR_write_27 rfl 1 rfl ?_
      refine J_getR (pc' := 31) d_GR_write_28 rfl sh_0 fl_GR_63 rfl ?_
      refine J_iconst (pc' := 32) (v := 1) d_GR_write_31 rfl ic_1 ?_
      obtain ⟨r10, σ9, hq8, hf⟩ := bdE hf
      refine J_V (pc' := 35) (as := [.int 1]) (rest := []) (st' := [.int r10]) d_GR_write_32 rfl sh_54 rfl mv_GR_165 (ct_Ss_find V _ σ 1 hq8) rfl rfl ⟨Nat.le_of_ble_eq_true rfl, Nat.le_of_ble_eq_true rfl⟩ ⟨rfl, rfl⟩ (Nat.le_of_ble_eq_true rfl) rfl ?_
      obtain ⟨rfl, rfl⟩ := resE hf
      exact J_iret d_GR_write_35
  · have hf := brT hc1 hf
    refine J_bipush (pc' := 10) (v := (-2)) d_GR_write_8 rfl bc_m2 ?_
    obtain ⟨rfl, rfl⟩ := resE hf
    exact J_iret d_GR_write_10
theorem ct_GR_write (V : Vx) (l : Launch) (σ : Sg) (v1 : Int32) {r : Int32} {σ' : Sg} (hf : f_GR_write σ v1 = some (r, σ')) : Ct V l y_GR_write c_GR_write 5 (some .int) (k2_rm 7 176) [rf V 0, .int v1] σ (some (.int r)) σ' := Ct.ofJ (by decide +kernel) (Nat.le_of_ble_eq_true rfl) fun X _ => j_GR_write _ v1 hf
def f_GR_tripsThatCount_39 (k4 : Sg → Int32 → Int32 → Option Int32) (σ : Sg) (v1 : Int32) (v2 : Int32) : Option Int32 :=
  k4 σ v1 (v2 + 1)
set_option maxHeartbeats 4000000 in
theorem j_GR_tripsThatCount_39 {V : Vx} {X : Xx} {σ : Sg} {r : Int32} {k4 : Sg → Int32 → Int32 → Option Int32} (hk4 : ∀ (v1 : Int32) (v2 : Int32), k4 σ v1 v2 = some r → J V X (k2_rm 2 43) c_GR_tripsThatCount R_GR 3 (some .int) (Qr V X (some (.int r)) σ) σ 4 [(0, rf V 0), (1, .int v1), (2, .int v2)] []) (v1 : Int32) (v2 : Int32) (hf : f_GR_tripsThatCount_39 k4 σ v1 v2 = some r) : J V X (k2_rm 2 43) c_GR_tripsThatCount R_GR 3 (some .int) (Qr V X (some (.int r)) σ) σ 39 [(0, rf V 0), (1, .int v1), (2, .int v2)] [] := by
  unfold f_GR_tripsThatCount_39 at hf
  refine J_iinc (pc' := 42) (j := 2) (v := 1) (lv' := [(2, .int (v2 + 1)), (0, rf V 0), (1, .int v1)]) d_GR_tripsThatCount_39 rfl rfl ic_1 (by decide) rfl ?_
  refine J_goto (tgt := 4) d_GR_tripsThatCount_42 (by decide) ?_
  refine J_pick [1, 2, 0] rfl ?_
  exact hk4 _ _ hf
def f_GR_tripsThatCount_4 : Nat → Sg → Int32 → Int32 → Option Int32
  | 0, _, _, _ => none
  | n + 1, σ, v1, v2 =>
    if (σ.1 18 2) ≤ v2 then
      some v1
    else
      if (f_Rs_has σ (σ.1 (f_Ts_at v2) 0)) = 0 then f_GR_tripsThatCount_39 (f_GR_tripsThatCount_4 n) σ v1 v2 else f_GR_tripsThatCount_39 (f_GR_tripsThatCount_4 n) σ (v1 + 1) v2
theorem f_GR_tripsThatCount_4_s (n : Nat) (σ : Sg) (v1 : Int32) (v2 : Int32) : f_GR_tripsThatCount_4 (n + 1) σ v1 v2 =
    if (σ.1 18 2) ≤ v2 then
      some v1
    else
      if (f_Rs_has σ (σ.1 (f_Ts_at v2) 0)) = 0 then f_GR_tripsThatCount_39 (f_GR_tripsThatCount_4 n) σ v1 v2 else f_GR_tripsThatCount_39 (f_GR_tripsThatCount_4 n) σ (v1 + 1) v2 := rfl
set_option maxHeartbeats 4000000 in
theorem j_GR_tripsThatCount_4 {V : Vx} {X : Xx} {σ : Sg} {r : Int32}  : ∀ (n : Nat) (v1 : Int32) (v2 : Int32), f_GR_tripsThatCount_4 n σ v1 v2 = some r → J V X (k2_rm 2 43) c_GR_tripsThatCount R_GR 3 (some .int) (Qr V X (some (.int r)) σ) σ 4 [(0, rf V 0), (1, .int v1), (2, .int v2)] [] := by
  intro n
  induction n with
  | zero => intro v1 v2 hf; exact nn hf
  | succ n ih =>
    intro v1 v2 hf
    rw [f_GR_tripsThatCount_4_s] at hf
    refine J_iload_n (pc' := 5) d_GR_tripsThatCount_4 rfl 2 rfl ?_
    refine J_aload_n (pc' := 6) d_GR_tripsThatCount_5 rfl 0 rfl ?_
    refine J_getR (pc' := 9) d_GR_tripsThatCount_6 rfl sh_0 fl_GR_35 rfl ?_
    refine J_getI (pc' := 12) d_GR_tripsThatCount_9 rfl sh_18 fl_GR_154 rfl ?_
    refine J_icmp_ge (pc' := 15) (tgt := 45) d_GR_tripsThatCount_12 rfl (by decide) (fun hc1 => ?_) (fun hc1 => ?_)
    · have hf := brT hc1 hf
      refine J_iload_n (pc' := 46) d_GR_tripsThatCount_45 rfl 1 rfl ?_
      obtain rfl := Option.some.inj hf
      exact J_iret d_GR_tripsThatCount_46
    · have hf := brF hc1 hf
      refine J_aload_n (pc' := 16) d_GR_tripsThatCount_15 rfl 0 rfl ?_
      refine J_getR (pc' := 19) d_GR_tripsThatCount_16 rfl sh_0 fl_GR_24 rfl ?_
      refine J_aload_n (pc' := 20) d_GR_tripsThatCount_19 rfl 0 rfl ?_
      refine J_getR (pc' := 23) d_GR_tripsThatCount_20 rfl sh_0 fl_GR_35 rfl ?_
      refine J_iload_n (pc' := 24) d_GR_tripsThatCount_23 rfl 2 rfl ?_
      refine J_V (pc' := 27) (as := [.int v2]) (rest := [rf V 5]) (st' := [rf V (f_Ts_at v2), rf V 5]) d_GR_tripsThatCount_24 rfl sh_18 rfl mv_GR_209 (ct_Ts_at V _ σ v2) rfl rfl ⟨Nat.le_of_ble_eq_true rfl, Nat.le_of_ble_eq_true rfl⟩ ⟨rfl, rfl⟩ (Nat.le_of_ble_eq_true rfl) rfl ?_
      refine J_getI (pc' := 30) d_GR_tripsThatCount_27 rfl (sh_Tr (is_Ts_at v2)) fl_GR_212 rfl ?_
      refine J_V (pc' := 33) (as := [.int (σ.1 (f_Ts_at v2) 0)]) (rest := []) (st' := [.int (f_Rs_has σ (σ.1 (f_Ts_at v2) 0))]) d_GR_tripsThatCount_30 rfl sh_5 rfl mv_GR_100 (ct_Rs_has V _ σ (σ.1 (f_Ts_at v2) 0)) rfl rfl ⟨Nat.le_of_ble_eq_true rfl, Nat.le_of_ble_eq_true rfl⟩ ⟨rfl, rfl⟩ (Nat.le_of_ble_eq_true rfl) rfl ?_
      refine J_if_eq (pc' := 36) (tgt := 39) d_GR_tripsThatCount_33 rfl (by decide) (fun hc2 => ?_) (fun hc2 => ?_)
      · have hf := brT hc2 hf
        exact j_GR_tripsThatCount_39 ih _ _ hf
      · have hf := brF hc2 hf
        refine J_iinc (pc' := 39) (j := 1) (v := 1) (lv' := [(1, .int (v1 + 1)), (0, rf V 0), (2, .int v2)]) d_GR_tripsThatCount_36 rfl rfl ic_1 (by decide) rfl ?_
        refine J_pick [1, 0, 2] rfl ?_
        exact j_GR_tripsThatCount_39 ih _ _ hf
def f_GR_tripsThatCount (σ : Sg)  : Option Int32 :=
  f_GR_tripsThatCount_4 FU σ 0 0
set_option maxHeartbeats 4000000 in
theorem j_GR_tripsThatCount {V : Vx} {X : Xx} {r : Int32} (σ : Sg) (hf : f_GR_tripsThatCount σ = some r) : J V X (k2_rm 2 43) c_GR_tripsThatCount R_GR 3 (some .int) (Qr V X (some (.int r)) σ) σ 0 [(0, rf V 0)] [] := by
  unfold f_GR_tripsThatCount at hf
  refine J_iconst (pc' := 1) (v := 0) d_GR_tripsThatCount_0 rfl ic_0 ?_
  refine J_istore_n (pc' := 2) (lv' := [(1, .int 0), (0, rf V 0)]) d_GR_tripsThatCount_1 rfl rfl (by decide) rfl ?_
  refine J_iconst (pc' := 3) (v := 0) d_GR_tripsThatCount_2 rfl ic_0 ?_
  refine J_istore_n (pc' := 4) (lv' := [(2, .int 0), (1, .int 0), (0, rf V 0)]) d_GR_tripsThatCount_3 rfl rfl (by decide) rfl ?_
  refine J_pick [2, 1, 0] rfl ?_
  exact j_GR_tripsThatCount_4 FU _ _ hf
theorem ct_GR_tripsThatCount (V : Vx) (l : Launch) (σ : Sg) {r : Int32} (hf : f_GR_tripsThatCount σ = some r) : Ct V l y_GR_tripsThatCount c_GR_tripsThatCount 3 (some .int) (k2_rm 2 43) [rf V 0] σ (some (.int r)) σ := Ct.ofJ (by decide +kernel) (Nat.le_of_ble_eq_true rfl) fun X _ => j_GR_tripsThatCount _  hf
def f_Rs_pairsThatMeet_4 : Nat → Sg → Int32 → Int32 → Option Int32
  | 0, _, _, _ => none
  | n + 1, σ, v1, v2 =>
    if (σ.1 5 3) ≤ v2 then
      some (v1 / 2)
    else
      (f_Rs_metBy σ (f_Rs_at v2)).bind fun r3 =>
        f_Rs_pairsThatMeet_4 n σ (v1 + r3) (v2 + 1)
theorem f_Rs_pairsThatMeet_4_s (n : Nat) (σ : Sg) (v1 : Int32) (v2 : Int32) : f_Rs_pairsThatMeet_4 (n + 1) σ v1 v2 =
    if (σ.1 5 3) ≤ v2 then
      some (v1 / 2)
    else
      (f_Rs_metBy σ (f_Rs_at v2)).bind fun r3 =>
        f_Rs_pairsThatMeet_4 n σ (v1 + r3) (v2 + 1) := rfl
set_option maxHeartbeats 4000000 in
theorem j_Rs_pairsThatMeet_4 {V : Vx} {X : Xx} {σ : Sg} {r : Int32}  : ∀ (n : Nat) (v1 : Int32) (v2 : Int32), f_Rs_pairsThatMeet_4 n σ v1 v2 = some r → J V X (k2_rm 3 66) c_Rs_pairsThatMeet R_Rs 3 (some .int) (Qr V X (some (.int r)) σ) σ 4 [(0, rf V 5), (1, .int v1), (2, .int v2)] [] := by
  intro n
  induction n with
  | zero => intro v1 v2 hf; exact nn hf
  | succ n ih =>
    intro v1 v2 hf
    rw [f_Rs_pairsThatMeet_4_s] at hf
    refine J_iload_n (pc' := 5) d_Rs_pairsThatMeet_4 rfl 2 rfl ?_
    refine J_aload_n (pc' := 6) d_Rs_pairsThatMeet_5 rfl 0 rfl ?_
    refine J_getI (pc' := 9) d_Rs_pairsThatMeet_6 rfl sh_5 fl_Rs_33 rfl ?_
    refine J_icmp_ge (pc' := 12) (tgt := 30) d_Rs_pairsThatMeet_9 rfl (by decide) (fun hc1 => ?_) (fun hc1 => ?_)
    · have hf := brT hc1 hf
      refine J_iload_n (pc' := 31) d_Rs_pairsThatMeet_30 rfl 1 rfl ?_
      refine J_iconst (pc' := 32) (v := 2) d_Rs_pairsThatMeet_31 rfl ic_2 ?_
      refine J_idiv (pc' := 33) d_Rs_pairsThatMeet_32 rfl (by decide) ?_
      obtain rfl := Option.some.inj hf
      exact J_iret d_Rs_pairsThatMeet_33
    · have hf := brF hc1 hf
      refine J_iload_n (pc' := 13) d_Rs_pairsThatMeet_12 rfl 1 rfl ?_
      refine J_aload_n (pc' := 14) d_Rs_pairsThatMeet_13 rfl 0 rfl ?_
      refine J_aload_n (pc' := 15) d_Rs_pairsThatMeet_14 rfl 0 rfl ?_
      refine J_iload_n (pc' := 16) d_Rs_pairsThatMeet_15 rfl 2 rfl ?_
      refine J_V (pc' := 19) (as := [.int v2]) (rest := [rf V 5, .int v1]) (st' := [rf V (f_Rs_at v2), rf V 5, .int v1]) d_Rs_pairsThatMeet_16 rfl sh_5 rfl mv_Rs_44 (ct_Rs_at V _ σ v2) rfl rfl ⟨Nat.le_of_ble_eq_true rfl, Nat.le_of_ble_eq_true rfl⟩ ⟨rfl, rfl⟩ (Nat.le_of_ble_eq_true rfl) rfl ?_
      obtain ⟨r3, hq2, hf⟩ := bpE hf
      refine J_V (pc' := 22) (as := [rf V (f_Rs_at v2)]) (rest := [.int v1]) (st' := [.int r3, .int v1]) d_Rs_pairsThatMeet_19 rfl sh_5 rfl mv_Rs_52 (ct_Rs_metBy V _ σ (f_Rs_at v2) (is_Rs_at v2) hq2) rfl rfl ⟨Nat.le_of_ble_eq_true rfl, Nat.le_of_ble_eq_true rfl⟩ ⟨rfl, rfl⟩ (Nat.le_of_ble_eq_true rfl) rfl ?_
      refine J_iadd (pc' := 23) d_Rs_pairsThatMeet_22 rfl ?_
      refine J_istore_n (pc' := 24) (lv' := [(1, .int (v1 + r3)), (0, rf V 5), (2, .int v2)]) d_Rs_pairsThatMeet_23 rfl rfl (by decide) rfl ?_
      refine J_iinc (pc' := 27) (j := 2) (v := 1) (lv' := [(2, .int (v2 + 1)), (1, .int (v1 + r3)), (0, rf V 5)]) d_Rs_pairsThatMeet_24 rfl rfl ic_1 (by decide) rfl ?_
      refine J_goto (tgt := 4) d_Rs_pairsThatMeet_27 (by decide) ?_
      refine J_pick [2, 1, 0] rfl ?_
      exact ih _ _ hf
def f_Rs_pairsThatMeet (σ : Sg)  : Option Int32 :=
  f_Rs_pairsThatMeet_4 FU σ 0 0
set_option maxHeartbeats 4000000 in
theorem j_Rs_pairsThatMeet {V : Vx} {X : Xx} {r : Int32} (σ : Sg) (hf : f_Rs_pairsThatMeet σ = some r) : J V X (k2_rm 3 66) c_Rs_pairsThatMeet R_Rs 3 (some .int) (Qr V X (some (.int r)) σ) σ 0 [(0, rf V 5)] [] := by
  unfold f_Rs_pairsThatMeet at hf
  refine J_iconst (pc' := 1) (v := 0) d_Rs_pairsThatMeet_0 rfl ic_0 ?_
  refine J_istore_n (pc' := 2) (lv' := [(1, .int 0), (0, rf V 5)]) d_Rs_pairsThatMeet_1 rfl rfl (by decide) rfl ?_
  refine J_iconst (pc' := 3) (v := 0) d_Rs_pairsThatMeet_2 rfl ic_0 ?_
  refine J_istore_n (pc' := 4) (lv' := [(2, .int 0), (1, .int 0), (0, rf V 5)]) d_Rs_pairsThatMeet_3 rfl rfl (by decide) rfl ?_
  refine J_pick [2, 1, 0] rfl ?_
  exact j_Rs_pairsThatMeet_4 FU _ _ hf
theorem ct_Rs_pairsThatMeet (V : Vx) (l : Launch) (σ : Sg) {r : Int32} (hf : f_Rs_pairsThatMeet σ = some r) : Ct V l y_Rs_pairsThatMeet c_Rs_pairsThatMeet 3 (some .int) (k2_rm 3 66) [rf V 5] σ (some (.int r)) σ := Ct.ofJ (by decide +kernel) (Nat.le_of_ble_eq_true rfl) fun X _ => j_Rs_pairsThatMeet _  hf
