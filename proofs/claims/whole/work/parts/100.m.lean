theorem d_JM_min_0 : decode c_JM_min 0 = .ok (.iload_n 0, 1) := by decide +kernel
theorem d_JM_min_1 : decode c_JM_min 1 = .ok (.iload_n 1, 1) := by decide +kernel
theorem d_JM_min_2 : decode c_JM_min 2 = .ok (.if_icmp .gt 7, 3) := by decide +kernel
theorem d_JM_min_5 : decode c_JM_min 5 = .ok (.iload_n 0, 1) := by decide +kernel
theorem d_JM_min_6 : decode c_JM_min 6 = .ok (.goto 4, 3) := by decide +kernel
theorem d_JM_min_9 : decode c_JM_min 9 = .ok (.iload_n 1, 1) := by decide +kernel
theorem d_JM_min_10 : decode c_JM_min 10 = .ok (.ireturn, 1) := by decide +kernel
theorem d_GR_isBelow_0 : decode c_GR_isBelow 0 = .ok (.iload_n 0, 1) := by decide +kernel
theorem d_GR_isBelow_1 : decode c_GR_isBelow 1 = .ok (.ifCond .lt 12, 3) := by decide +kernel
theorem d_GR_isBelow_4 : decode c_GR_isBelow 4 = .ok (.iload_n 0, 1) := by decide +kernel
theorem d_GR_isBelow_5 : decode c_GR_isBelow 5 = .ok (.iload_n 1, 1) := by decide +kernel
theorem d_GR_isBelow_6 : decode c_GR_isBelow 6 = .ok (.if_icmp .ge 7, 3) := by decide +kernel
theorem d_GR_isBelow_9 : decode c_GR_isBelow 9 = .ok (.iconst 1, 1) := by decide +kernel
theorem d_GR_isBelow_10 : decode c_GR_isBelow 10 = .ok (.goto 4, 3) := by decide +kernel
theorem d_GR_isBelow_13 : decode c_GR_isBelow 13 = .ok (.iconst 0, 1) := by decide +kernel
theorem d_GR_isBelow_14 : decode c_GR_isBelow 14 = .ok (.ireturn, 1) := by decide +kernel
theorem d_GR_textOf_0 : decode c_GR_textOf 0 = .ok (.iload_n 1, 1) := by decide +kernel
theorem d_GR_textOf_1 : decode c_GR_textOf 1 = .ok (.ifCond .ne 10, 3) := by decide +kernel
theorem d_GR_textOf_4 : decode c_GR_textOf 4 = .ok (.aload_n 0, 1) := by decide +kernel
theorem d_GR_textOf_5 : decode c_GR_textOf 5 = .ok (.getfield 14, 3) := by decide +kernel
theorem d_GR_textOf_8 : decode c_GR_textOf 8 = .ok (.goto 7, 3) := by decide +kernel
theorem d_GR_textOf_11 : decode c_GR_textOf 11 = .ok (.aload_n 0, 1) := by decide +kernel
theorem d_GR_textOf_12 : decode c_GR_textOf 12 = .ok (.getfield 18, 3) := by decide +kernel
theorem d_GR_textOf_15 : decode c_GR_textOf 15 = .ok (.areturn, 1) := by decide +kernel
theorem d_Te_isFull_0 : decode c_Te_isFull 0 = .ok (.aload_n 0, 1) := by decide +kernel
theorem d_Te_isFull_1 : decode c_Te_isFull 1 = .ok (.getfield 25, 3) := by decide +kernel
theorem d_Te_isFull_4 : decode c_Te_isFull 4 = .ok (.aload_n 0, 1) := by decide +kernel
theorem d_Te_isFull_5 : decode c_Te_isFull 5 = .ok (.getfield 21, 3) := by decide +kernel
theorem d_Te_isFull_8 : decode c_Te_isFull 8 = .ok (.if_icmp .lt 7, 3) := by decide +kernel
theorem d_Te_isFull_11 : decode c_Te_isFull 11 = .ok (.iconst 1, 1) := by decide +kernel
theorem d_Te_isFull_12 : decode c_Te_isFull 12 = .ok (.goto 4, 3) := by decide +kernel
theorem d_Te_isFull_15 : decode c_Te_isFull 15 = .ok (.iconst 0, 1) := by decide +kernel
theorem d_Te_isFull_16 : decode c_Te_isFull 16 = .ok (.ireturn, 1) := by decide +kernel
theorem d_Te_append_0 : decode c_Te_append 0 = .ok (.aload_n 0, 1) := by decide +kernel
theorem d_Te_append_1 : decode c_Te_append 1 = .ok (.getfield 25, 3) := by decide +kernel
theorem d_Te_append_4 : decode c_Te_append 4 = .ok (.aload_n 0, 1) := by decide +kernel
theorem d_Te_append_5 : decode c_Te_append 5 = .ok (.getfield 21, 3) := by decide +kernel
theorem d_Te_append_8 : decode c_Te_append 8 = .ok (.invokestatic 28, 3) := by decide +kernel
theorem d_Te_append_11 : decode c_Te_append 11 = .ok (.ifCond .eq 23, 3) := by decide +kernel
theorem d_Te_append_14 : decode c_Te_append 14 = .ok (.aload_n 0, 1) := by decide +kernel
theorem d_Te_append_15 : decode c_Te_append 15 = .ok (.getfield 9, 3) := by decide +kernel
theorem d_Te_append_18 : decode c_Te_append 18 = .ok (.aload_n 0, 1) := by decide +kernel
theorem d_Te_append_19 : decode c_Te_append 19 = .ok (.getfield 25, 3) := by decide +kernel
theorem d_Te_append_22 : decode c_Te_append 22 = .ok (.iload_n 1, 1) := by decide +kernel
theorem d_Te_append_23 : decode c_Te_append 23 = .ok (.iastore, 1) := by decide +kernel
theorem d_Te_append_24 : decode c_Te_append 24 = .ok (.aload_n 0, 1) := by decide +kernel
theorem d_Te_append_25 : decode c_Te_append 25 = .ok (.dup, 1) := by decide +kernel
theorem d_Te_append_26 : decode c_Te_append 26 = .ok (.getfield 25, 3) := by decide +kernel
theorem d_Te_append_29 : decode c_Te_append 29 = .ok (.iconst 1, 1) := by decide +kernel
theorem d_Te_append_30 : decode c_Te_append 30 = .ok (.iadd, 1) := by decide +kernel
theorem d_Te_append_31 : decode c_Te_append 31 = .ok (.putfield 25, 3) := by decide +kernel
theorem d_Te_append_34 : decode c_Te_append 34 = .ok (.return_, 1) := by decide +kernel
theorem d_Te_at_0 : decode c_Te_at 0 = .ok (.iload_n 1, 1) := by decide +kernel
theorem d_Te_at_1 : decode c_Te_at 1 = .ok (.aload_n 0, 1) := by decide +kernel
theorem d_Te_at_2 : decode c_Te_at 2 = .ok (.getfield 25, 3) := by decide +kernel
theorem d_Te_at_5 : decode c_Te_at 5 = .ok (.invokestatic 28, 3) := by decide +kernel
theorem d_Te_at_8 : decode c_Te_at 8 = .ok (.ifCond .eq 12, 3) := by decide +kernel
theorem d_Te_at_11 : decode c_Te_at 11 = .ok (.aload_n 0, 1) := by decide +kernel
theorem d_Te_at_12 : decode c_Te_at 12 = .ok (.getfield 9, 3) := by decide +kernel
theorem d_Te_at_15 : decode c_Te_at 15 = .ok (.iload_n 1, 1) := by decide +kernel
theorem d_Te_at_16 : decode c_Te_at 16 = .ok (.iaload, 1) := by decide +kernel
theorem d_Te_at_17 : decode c_Te_at 17 = .ok (.goto 4, 3) := by decide +kernel
theorem d_Te_at_20 : decode c_Te_at 20 = .ok (.iconst (-1), 1) := by decide +kernel
theorem d_Te_at_21 : decode c_Te_at 21 = .ok (.ireturn, 1) := by decide +kernel
theorem d_Te_figureAt_0 : decode c_Te_figureAt 0 = .ok (.aload_n 0, 1) := by decide +kernel
theorem d_Te_figureAt_1 : decode c_Te_figureAt 1 = .ok (.iload_n 1, 1) := by decide +kernel
theorem d_Te_figureAt_2 : decode c_Te_figureAt 2 = .ok (.invokevirtual 32, 3) := by decide +kernel
theorem d_Te_figureAt_5 : decode c_Te_figureAt 5 = .ok (.bipush 48, 2) := by decide +kernel
theorem d_Te_figureAt_7 : decode c_Te_figureAt 7 = .ok (.isub, 1) := by decide +kernel
theorem d_Te_figureAt_8 : decode c_Te_figureAt 8 = .ok (.istore_n 2, 1) := by decide +kernel
theorem d_Te_figureAt_9 : decode c_Te_figureAt 9 = .ok (.iload_n 2, 1) := by decide +kernel
theorem d_Te_figureAt_10 : decode c_Te_figureAt 10 = .ok (.bipush 10, 2) := by decide +kernel
theorem d_Te_figureAt_12 : decode c_Te_figureAt 12 = .ok (.invokestatic 28, 3) := by decide +kernel
theorem d_Te_figureAt_15 : decode c_Te_figureAt 15 = .ok (.ifCond .eq 7, 3) := by decide +kernel
theorem d_Te_figureAt_18 : decode c_Te_figureAt 18 = .ok (.iload_n 2, 1) := by decide +kernel
theorem d_Te_figureAt_19 : decode c_Te_figureAt 19 = .ok (.goto 4, 3) := by decide +kernel
theorem d_Te_figureAt_22 : decode c_Te_figureAt 22 = .ok (.iconst (-1), 1) := by decide +kernel
theorem d_Te_figureAt_23 : decode c_Te_figureAt 23 = .ok (.ireturn, 1) := by decide +kernel
theorem d_Rs_kindOf_0 : decode c_Rs_kindOf 0 = .ok (.iload_n 0, 1) := by decide +kernel
theorem d_Rs_kindOf_1 : decode c_Rs_kindOf 1 = .ok (.lookupswitch 41 #[(98, 35), (99, 39), (104, 37)], 35) := by decide +kernel
theorem d_Rs_kindOf_36 : decode c_Rs_kindOf 36 = .ok (.iconst 0, 1) := by decide +kernel
theorem d_Rs_kindOf_37 : decode c_Rs_kindOf 37 = .ok (.ireturn, 1) := by decide +kernel
theorem d_Rs_kindOf_38 : decode c_Rs_kindOf 38 = .ok (.iconst 1, 1) := by decide +kernel
theorem d_Rs_kindOf_39 : decode c_Rs_kindOf 39 = .ok (.ireturn, 1) := by decide +kernel
theorem d_Rs_kindOf_40 : decode c_Rs_kindOf 40 = .ok (.iconst 2, 1) := by decide +kernel
theorem d_Rs_kindOf_41 : decode c_Rs_kindOf 41 = .ok (.ireturn, 1) := by decide +kernel
theorem d_Rs_kindOf_42 : decode c_Rs_kindOf 42 = .ok (.iconst (-1), 1) := by decide +kernel
theorem d_Rs_kindOf_43 : decode c_Rs_kindOf 43 = .ok (.ireturn, 1) := by decide +kernel
theorem d_Rs_valueOf_0 : decode c_Rs_valueOf 0 = .ok (.iload_n 0, 1) := by decide +kernel
theorem d_Rs_valueOf_1 : decode c_Rs_valueOf 1 = .ok (.iconst 2, 1) := by decide +kernel
theorem d_Rs_valueOf_2 : decode c_Rs_valueOf 2 = .ok (.if_icmp .ne 8, 3) := by decide +kernel
theorem d_Rs_valueOf_5 : decode c_Rs_valueOf 5 = .ok (.iload_n 1, 1) := by decide +kernel
theorem d_Rs_valueOf_6 : decode c_Rs_valueOf 6 = .ok (.invokestatic 86, 3) := by decide +kernel
theorem d_Rs_valueOf_9 : decode c_Rs_valueOf 9 = .ok (.ireturn, 1) := by decide +kernel
theorem d_Rs_valueOf_10 : decode c_Rs_valueOf 10 = .ok (.iload_n 0, 1) := by decide +kernel
theorem d_Rs_valueOf_11 : decode c_Rs_valueOf 11 = .ok (.bipush 6, 2) := by decide +kernel
theorem d_Rs_valueOf_13 : decode c_Rs_valueOf 13 = .ok (.if_icmp .ne 15, 3) := by decide +kernel
theorem d_Rs_valueOf_16 : decode c_Rs_valueOf 16 = .ok (.iload_n 1, 1) := by decide +kernel
theorem d_Rs_valueOf_17 : decode c_Rs_valueOf 17 = .ok (.bipush 59, 2) := by decide +kernel
theorem d_Rs_valueOf_19 : decode c_Rs_valueOf 19 = .ok (.if_icmp .ne 7, 3) := by decide +kernel
theorem d_Rs_valueOf_22 : decode c_Rs_valueOf 22 = .ok (.iconst 0, 1) := by decide +kernel
theorem d_Rs_valueOf_23 : decode c_Rs_valueOf 23 = .ok (.goto 4, 3) := by decide +kernel
theorem d_Rs_valueOf_26 : decode c_Rs_valueOf 26 = .ok (.iconst (-1), 1) := by decide +kernel
theorem d_Rs_valueOf_27 : decode c_Rs_valueOf 27 = .ok (.ireturn, 1) := by decide +kernel
theorem d_Rs_valueOf_28 : decode c_Rs_valueOf 28 = .ok (.iload_n 0, 1) := by decide +kernel
theorem d_Rs_valueOf_29 : decode c_Rs_valueOf 29 = .ok (.iconst 5, 1) := by decide +kernel
theorem d_Rs_valueOf_30 : decode c_Rs_valueOf 30 = .ok (.if_icmp .ne 10, 3) := by decide +kernel
theorem d_Rs_valueOf_33 : decode c_Rs_valueOf 33 = .ok (.iload_n 2, 1) := by decide +kernel
theorem d_Rs_valueOf_34 : decode c_Rs_valueOf 34 = .ok (.iconst 5, 1) := by decide +kernel
theorem d_Rs_valueOf_35 : decode c_Rs_valueOf 35 = .ok (.if_icmp .lt 5, 3) := by decide +kernel
theorem d_Rs_valueOf_38 : decode c_Rs_valueOf 38 = .ok (.iconst (-1), 1) := by decide +kernel
theorem d_Rs_valueOf_39 : decode c_Rs_valueOf 39 = .ok (.ireturn, 1) := by decide +kernel
theorem d_Rs_valueOf_40 : decode c_Rs_valueOf 40 = .ok (.iload_n 2, 1) := by decide +kernel
theorem d_Rs_valueOf_41 : decode c_Rs_valueOf 41 = .ok (.ireturn, 1) := by decide +kernel
theorem d_Rs_at_0 : decode c_Rs_at 0 = .ok (.iload_n 1, 1) := by decide +kernel
theorem d_Rs_at_1 : decode c_Rs_at 1 = .ok (.bipush 8, 2) := by decide +kernel
theorem d_Rs_at_3 : decode c_Rs_at 3 = .ok (.invokestatic 36, 3) := by decide +kernel
theorem d_Rs_at_6 : decode c_Rs_at 6 = .ok (.ifCond .eq 12, 3) := by decide +kernel
theorem d_Rs_at_9 : decode c_Rs_at 9 = .ok (.aload_n 0, 1) := by decide +kernel
theorem d_Rs_at_10 : decode c_Rs_at 10 = .ok (.getfield 11, 3) := by decide +kernel
theorem d_Rs_at_13 : decode c_Rs_at 13 = .ok (.iload_n 1, 1) := by decide +kernel
theorem d_Rs_at_14 : decode c_Rs_at 14 = .ok (.aaload, 1) := by decide +kernel
theorem d_Rs_at_15 : decode c_Rs_at 15 = .ok (.goto 4, 3) := by decide +kernel
theorem d_Rs_at_18 : decode c_Rs_at 18 = .ok (.aconst_null, 1) := by decide +kernel
theorem d_Rs_at_19 : decode c_Rs_at 19 = .ok (.astore_n 2, 1) := by decide +kernel
theorem d_Rs_at_20 : decode c_Rs_at 20 = .ok (.aload_n 2, 1) := by decide +kernel
theorem d_Rs_at_21 : decode c_Rs_at 21 = .ok (.ifnonnull 10, 3) := by decide +kernel
theorem d_Rs_at_24 : decode c_Rs_at 24 = .ok (.aload_n 0, 1) := by decide +kernel
theorem d_Rs_at_25 : decode c_Rs_at 25 = .ok (.getfield 18, 3) := by decide +kernel
theorem d_Rs_at_28 : decode c_Rs_at 28 = .ok (.goto 4, 3) := by decide +kernel
theorem d_Rs_at_31 : decode c_Rs_at 31 = .ok (.aload_n 2, 1) := by decide +kernel
theorem d_Rs_at_32 : decode c_Rs_at 32 = .ok (.areturn, 1) := by decide +kernel
theorem d_JM_max_0 : decode c_JM_max 0 = .ok (.iload_n 0, 1) := by decide +kernel
theorem d_JM_max_1 : decode c_JM_max 1 = .ok (.iload_n 1, 1) := by decide +kernel
theorem d_JM_max_2 : decode c_JM_max 2 = .ok (.if_icmp .lt 7, 3) := by decide +kernel
theorem d_JM_max_5 : decode c_JM_max 5 = .ok (.iload_n 0, 1) := by decide +kernel
theorem d_JM_max_6 : decode c_JM_max 6 = .ok (.goto 4, 3) := by decide +kernel
theorem d_JM_max_9 : decode c_JM_max 9 = .ok (.iload_n 1, 1) := by decide +kernel
theorem d_JM_max_10 : decode c_JM_max 10 = .ok (.ireturn, 1) := by decide +kernel
theorem d_Ro_hang_0 : decode c_Ro_hang 0 = .ok (.aload_n 0, 1) := by decide +kernel
theorem d_Ro_hang_1 : decode c_Ro_hang 1 = .ok (.iload_n 1, 1) := by decide +kernel
theorem d_Ro_hang_2 : decode c_Ro_hang 2 = .ok (.putfield 7, 3) := by decide +kernel
theorem d_Ro_hang_5 : decode c_Ro_hang 5 = .ok (.aload_n 0, 1) := by decide +kernel
theorem d_Ro_hang_6 : decode c_Ro_hang 6 = .ok (.iload_n 2, 1) := by decide +kernel
theorem d_Ro_hang_7 : decode c_Ro_hang 7 = .ok (.putfield 13, 3) := by decide +kernel
theorem d_Ro_hang_10 : decode c_Ro_hang 10 = .ok (.aload_n 0, 1) := by decide +kernel
theorem d_Ro_hang_11 : decode c_Ro_hang 11 = .ok (.iconst 0, 1) := by decide +kernel
theorem d_Ro_hang_12 : decode c_Ro_hang 12 = .ok (.aload_n 0, 1) := by decide +kernel
theorem d_Ro_hang_13 : decode c_Ro_hang 13 = .ok (.getfield 13, 3) := by decide +kernel
theorem d_Ro_hang_16 : decode c_Ro_hang 16 = .ok (.aload_n 0, 1) := by decide +kernel
theorem d_Ro_hang_17 : decode c_Ro_hang 17 = .ok (.getfield 7, 3) := by decide +kernel
theorem d_Ro_hang_20 : decode c_Ro_hang 20 = .ok (.isub, 1) := by decide +kernel
theorem d_Ro_hang_21 : decode c_Ro_hang 21 = .ok (.invokestatic 35, 3) := by decide +kernel
theorem d_Ro_hang_24 : decode c_Ro_hang 24 = .ok (.putfield 41, 3) := by decide +kernel
theorem d_Ro_hang_27 : decode c_Ro_hang 27 = .ok (.aload_n 0, 1) := by decide +kernel
theorem d_Ro_hang_28 : decode c_Ro_hang 28 = .ok (.iconst 0, 1) := by decide +kernel
theorem d_Ro_hang_29 : decode c_Ro_hang 29 = .ok (.aload_n 0, 1) := by decide +kernel
theorem d_Ro_hang_30 : decode c_Ro_hang 30 = .ok (.getfield 7, 3) := by decide +kernel
theorem d_Ro_hang_33 : decode c_Ro_hang 33 = .ok (.aload_n 0, 1) := by decide +kernel
theorem d_Ro_hang_34 : decode c_Ro_hang 34 = .ok (.getfield 13, 3) := by decide +kernel
theorem d_Ro_hang_37 : decode c_Ro_hang 37 = .ok (.isub, 1) := by decide +kernel
theorem d_Ro_hang_38 : decode c_Ro_hang 38 = .ok (.invokestatic 35, 3) := by decide +kernel
theorem d_Ro_hang_41 : decode c_Ro_hang 41 = .ok (.putfield 44, 3) := by decide +kernel
theorem d_Ro_hang_44 : decode c_Ro_hang 44 = .ok (.return_, 1) := by decide +kernel
theorem d_Ro_learn_0 : decode c_Ro_learn 0 = .ok (.iload_n 1, 1) := by decide +kernel
theorem d_Ro_learn_1 : decode c_Ro_learn 1 = .ok (.tableswitch 95 0 5 #[39, 51, 63, 71, 79, 87], 39) := by decide +kernel
theorem d_Ro_learn_40 : decode c_Ro_learn 40 = .ok (.aload_n 0, 1) := by decide +kernel
theorem d_Ro_learn_41 : decode c_Ro_learn 41 = .ok (.iload_n 2, 1) := by decide +kernel
theorem d_Ro_learn_42 : decode c_Ro_learn 42 = .ok (.aload_n 0, 1) := by decide +kernel
theorem d_Ro_learn_43 : decode c_Ro_learn 43 = .ok (.getfield 13, 3) := by decide +kernel
theorem d_Ro_learn_46 : decode c_Ro_learn 46 = .ok (.invokevirtual 31, 3) := by decide +kernel
theorem d_Ro_learn_49 : decode c_Ro_learn 49 = .ok (.goto 47, 3) := by decide +kernel
theorem d_Ro_learn_52 : decode c_Ro_learn 52 = .ok (.aload_n 0, 1) := by decide +kernel
theorem d_Ro_learn_53 : decode c_Ro_learn 53 = .ok (.aload_n 0, 1) := by decide +kernel
theorem d_Ro_learn_54 : decode c_Ro_learn 54 = .ok (.getfield 7, 3) := by decide +kernel
theorem d_Ro_learn_57 : decode c_Ro_learn 57 = .ok (.iload_n 2, 1) := by decide +kernel
theorem d_Ro_learn_58 : decode c_Ro_learn 58 = .ok (.invokevirtual 31, 3) := by decide +kernel
theorem d_Ro_learn_61 : decode c_Ro_learn 61 = .ok (.goto 35, 3) := by decide +kernel
theorem d_Ro_learn_64 : decode c_Ro_learn 64 = .ok (.aload_n 0, 1) := by decide +kernel
theorem d_Ro_learn_65 : decode c_Ro_learn 65 = .ok (.iload_n 2, 1) := by decide +kernel
theorem d_Ro_learn_66 : decode c_Ro_learn 66 = .ok (.putfield 16, 3) := by decide +kernel
theorem d_Ro_learn_69 : decode c_Ro_learn 69 = .ok (.goto 27, 3) := by decide +kernel
theorem d_Ro_learn_72 : decode c_Ro_learn 72 = .ok (.aload_n 0, 1) := by decide +kernel
theorem d_Ro_learn_73 : decode c_Ro_learn 73 = .ok (.iload_n 2, 1) := by decide +kernel
theorem d_Ro_learn_74 : decode c_Ro_learn 74 = .ok (.putfield 19, 3) := by decide +kernel
theorem d_Ro_learn_77 : decode c_Ro_learn 77 = .ok (.goto 19, 3) := by decide +kernel
theorem d_Ro_learn_80 : decode c_Ro_learn 80 = .ok (.aload_n 0, 1) := by decide +kernel
theorem d_Ro_learn_81 : decode c_Ro_learn 81 = .ok (.iload_n 2, 1) := by decide +kernel
theorem d_Ro_learn_82 : decode c_Ro_learn 82 = .ok (.putfield 22, 3) := by decide +kernel
theorem d_Ro_learn_85 : decode c_Ro_learn 85 = .ok (.goto 11, 3) := by decide +kernel
theorem d_Ro_learn_88 : decode c_Ro_learn 88 = .ok (.aload_n 0, 1) := by decide +kernel
theorem d_Ro_learn_89 : decode c_Ro_learn 89 = .ok (.iload_n 2, 1) := by decide +kernel
theorem d_Ro_learn_90 : decode c_Ro_learn 90 = .ok (.putfield 25, 3) := by decide +kernel
theorem d_Ro_learn_93 : decode c_Ro_learn 93 = .ok (.goto 3, 3) := by decide +kernel
theorem d_Ro_learn_96 : decode c_Ro_learn 96 = .ok (.return_, 1) := by decide +kernel
theorem d_Rs_learnRopes_0 : decode c_Rs_learnRopes 0 = .ok (.iconst 0, 1) := by decide +kernel
theorem d_Rs_learnRopes_1 : decode c_Rs_learnRopes 1 = .ok (.istore_n 2, 1) := by decide +kernel
theorem d_Rs_learnRopes_2 : decode c_Rs_learnRopes 2 = .ok (.iload_n 2, 1) := by decide +kernel
theorem d_Rs_learnRopes_3 : decode c_Rs_learnRopes 3 = .ok (.aload_n 1, 1) := by decide +kernel
theorem d_Rs_learnRopes_4 : decode c_Rs_learnRopes 4 = .ok (.getfield 60, 3) := by decide +kernel
theorem d_Rs_learnRopes_7 : decode c_Rs_learnRopes 7 = .ok (.if_icmp .ge 61, 3) := by decide +kernel
theorem d_Rs_learnRopes_10 : decode c_Rs_learnRopes 10 = .ok (.iload_n 2, 1) := by decide +kernel
theorem d_Rs_learnRopes_11 : decode c_Rs_learnRopes 11 = .ok (.bipush 7, 2) := by decide +kernel
theorem d_Rs_learnRopes_13 : decode c_Rs_learnRopes 13 = .ok (.idiv, 1) := by decide +kernel
theorem d_Rs_learnRopes_14 : decode c_Rs_learnRopes 14 = .ok (.istore_n 3, 1) := by decide +kernel
theorem d_Rs_learnRopes_15 : decode c_Rs_learnRopes 15 = .ok (.iload_n 2, 1) := by decide +kernel
theorem d_Rs_learnRopes_16 : decode c_Rs_learnRopes 16 = .ok (.bipush 7, 2) := by decide +kernel
theorem d_Rs_learnRopes_18 : decode c_Rs_learnRopes 18 = .ok (.irem, 1) := by decide +kernel
theorem d_Rs_learnRopes_19 : decode c_Rs_learnRopes 19 = .ok (.aload_n 1, 1) := by decide +kernel
theorem d_Rs_learnRopes_20 : decode c_Rs_learnRopes 20 = .ok (.iload_n 2, 1) := by decide +kernel
theorem d_Rs_learnRopes_21 : decode c_Rs_learnRopes 21 = .ok (.invokevirtual 72, 3) := by decide +kernel
theorem d_Rs_learnRopes_24 : decode c_Rs_learnRopes 24 = .ok (.aload_n 1, 1) := by decide +kernel
theorem d_Rs_learnRopes_25 : decode c_Rs_learnRopes 25 = .ok (.iload_n 2, 1) := by decide +kernel
theorem d_Rs_learnRopes_26 : decode c_Rs_learnRopes 26 = .ok (.invokevirtual 75, 3) := by decide +kernel
theorem d_Rs_learnRopes_29 : decode c_Rs_learnRopes 29 = .ok (.invokestatic 78, 3) := by decide +kernel
theorem d_Rs_learnRopes_32 : decode c_Rs_learnRopes 32 = .ok (.istore 4, 2) := by decide +kernel
theorem d_Rs_learnRopes_34 : decode c_Rs_learnRopes 34 = .ok (.iload_n 3, 1) := by decide +kernel
theorem d_Rs_learnRopes_35 : decode c_Rs_learnRopes 35 = .ok (.bipush 8, 2) := by decide +kernel
theorem d_Rs_learnRopes_37 : decode c_Rs_learnRopes 37 = .ok (.if_icmp .ge 9, 3) := by decide +kernel
theorem d_Rs_learnRopes_40 : decode c_Rs_learnRopes 40 = .ok (.iload 4, 2) := by decide +kernel
theorem d_Rs_learnRopes_42 : decode c_Rs_learnRopes 42 = .ok (.iconst (-1), 1) := by decide +kernel
theorem d_Rs_learnRopes_43 : decode c_Rs_learnRopes 43 = .ok (.if_icmp .ne 5, 3) := by decide +kernel
theorem d_Rs_learnRopes_46 : decode c_Rs_learnRopes 46 = .ok (.iload_n 2, 1) := by decide +kernel
theorem d_Rs_learnRopes_47 : decode c_Rs_learnRopes 47 = .ok (.ireturn, 1) := by decide +kernel
theorem d_Rs_learnRopes_48 : decode c_Rs_learnRopes 48 = .ok (.aload_n 0, 1) := by decide +kernel
theorem d_Rs_learnRopes_49 : decode c_Rs_learnRopes 49 = .ok (.iload_n 3, 1) := by decide +kernel
theorem d_Rs_learnRopes_50 : decode c_Rs_learnRopes 50 = .ok (.invokevirtual 44, 3) := by decide +kernel
theorem d_Rs_learnRopes_53 : decode c_Rs_learnRopes 53 = .ok (.iload_n 2, 1) := by decide +kernel
theorem d_Rs_learnRopes_54 : decode c_Rs_learnRopes 54 = .ok (.bipush 7, 2) := by decide +kernel
theorem d_Rs_learnRopes_56 : decode c_Rs_learnRopes 56 = .ok (.irem, 1) := by decide +kernel
theorem d_Rs_learnRopes_57 : decode c_Rs_learnRopes 57 = .ok (.iload 4, 2) := by decide +kernel
theorem d_Rs_learnRopes_59 : decode c_Rs_learnRopes 59 = .ok (.invokevirtual 82, 3) := by decide +kernel
theorem d_Rs_learnRopes_62 : decode c_Rs_learnRopes 62 = .ok (.iinc 2 1, 3) := by decide +kernel
theorem d_Rs_learnRopes_65 : decode c_Rs_learnRopes 65 = .ok (.goto (-63), 3) := by decide +kernel
theorem d_Rs_learnRopes_68 : decode c_Rs_learnRopes 68 = .ok (.aload_n 1, 1) := by decide +kernel
theorem d_Rs_learnRopes_69 : decode c_Rs_learnRopes 69 = .ok (.getfield 60, 3) := by decide +kernel
theorem d_Rs_learnRopes_72 : decode c_Rs_learnRopes 72 = .ok (.ifCond .eq 15, 3) := by decide +kernel
theorem d_Rs_learnRopes_75 : decode c_Rs_learnRopes 75 = .ok (.aload_n 1, 1) := by decide +kernel
theorem d_Rs_learnRopes_76 : decode c_Rs_learnRopes 76 = .ok (.getfield 60, 3) := by decide +kernel
theorem d_Rs_learnRopes_79 : decode c_Rs_learnRopes 79 = .ok (.bipush 7, 2) := by decide +kernel
theorem d_Rs_learnRopes_81 : decode c_Rs_learnRopes 81 = .ok (.irem, 1) := by decide +kernel
theorem d_Rs_learnRopes_82 : decode c_Rs_learnRopes 82 = .ok (.bipush 6, 2) := by decide +kernel
theorem d_Rs_learnRopes_84 : decode c_Rs_learnRopes 84 = .ok (.if_icmp .ne 7, 3) := by decide +kernel
theorem d_Rs_learnRopes_87 : decode c_Rs_learnRopes 87 = .ok (.iconst 1, 1) := by decide +kernel
theorem d_Rs_learnRopes_88 : decode c_Rs_learnRopes 88 = .ok (.goto 4, 3) := by decide +kernel
theorem d_Rs_learnRopes_91 : decode c_Rs_learnRopes 91 = .ok (.iconst 0, 1) := by decide +kernel
theorem d_Rs_learnRopes_92 : decode c_Rs_learnRopes 92 = .ok (.istore_n 2, 1) := by decide +kernel
theorem d_Rs_learnRopes_93 : decode c_Rs_learnRopes 93 = .ok (.iload_n 2, 1) := by decide +kernel
theorem d_Rs_learnRopes_94 : decode c_Rs_learnRopes 94 = .ok (.ifCond .eq 7, 3) := by decide +kernel
theorem d_Rs_learnRopes_97 : decode c_Rs_learnRopes 97 = .ok (.iconst (-1), 1) := by decide +kernel
theorem d_Rs_learnRopes_98 : decode c_Rs_learnRopes 98 = .ok (.goto 7, 3) := by decide +kernel
theorem d_Rs_learnRopes_101 : decode c_Rs_learnRopes 101 = .ok (.aload_n 1, 1) := by decide +kernel
theorem d_Rs_learnRopes_102 : decode c_Rs_learnRopes 102 = .ok (.getfield 60, 3) := by decide +kernel
theorem d_Rs_learnRopes_105 : decode c_Rs_learnRopes 105 = .ok (.ireturn, 1) := by decide +kernel
theorem d_Rs_has_0 : decode c_Rs_has 0 = .ok (.iload_n 1, 1) := by decide +kernel
theorem d_Rs_has_1 : decode c_Rs_has 1 = .ok (.aload_n 0, 1) := by decide +kernel
theorem d_Rs_has_2 : decode c_Rs_has 2 = .ok (.getfield 33, 3) := by decide +kernel
theorem d_Rs_has_5 : decode c_Rs_has 5 = .ok (.invokestatic 36, 3) := by decide +kernel
theorem d_Rs_has_8 : decode c_Rs_has 8 = .ok (.ireturn, 1) := by decide +kernel
theorem d_Rs_faultOfRight_0 : decode c_Rs_faultOfRight 0 = .ok (.iconst 0, 1) := by decide +kernel
theorem d_Rs_faultOfRight_1 : decode c_Rs_faultOfRight 1 = .ok (.istore_n 2, 1) := by decide +kernel
theorem d_Rs_faultOfRight_2 : decode c_Rs_faultOfRight 2 = .ok (.iconst 0, 1) := by decide +kernel
theorem d_Rs_faultOfRight_3 : decode c_Rs_faultOfRight 3 = .ok (.istore_n 3, 1) := by decide +kernel
theorem d_Rs_faultOfRight_4 : decode c_Rs_faultOfRight 4 = .ok (.iload_n 3, 1) := by decide +kernel
theorem d_Rs_faultOfRight_5 : decode c_Rs_faultOfRight 5 = .ok (.aload_n 1, 1) := by decide +kernel
theorem d_Rs_faultOfRight_6 : decode c_Rs_faultOfRight 6 = .ok (.getfield 60, 3) := by decide +kernel
theorem d_Rs_faultOfRight_9 : decode c_Rs_faultOfRight 9 = .ok (.if_icmp .ge 43, 3) := by decide +kernel
theorem d_Rs_faultOfRight_12 : decode c_Rs_faultOfRight 12 = .ok (.aload_n 1, 1) := by decide +kernel
theorem d_Rs_faultOfRight_13 : decode c_Rs_faultOfRight 13 = .ok (.iload_n 3, 1) := by decide +kernel
theorem d_Rs_faultOfRight_14 : decode c_Rs_faultOfRight 14 = .ok (.invokevirtual 75, 3) := by decide +kernel
theorem d_Rs_faultOfRight_17 : decode c_Rs_faultOfRight 17 = .ok (.istore 4, 2) := by decide +kernel
theorem d_Rs_faultOfRight_19 : decode c_Rs_faultOfRight 19 = .ok (.aload_n 0, 1) := by decide +kernel
theorem d_Rs_faultOfRight_20 : decode c_Rs_faultOfRight 20 = .ok (.iload 4, 2) := by decide +kernel
theorem d_Rs_faultOfRight_22 : decode c_Rs_faultOfRight 22 = .ok (.invokevirtual 40, 3) := by decide +kernel
theorem d_Rs_faultOfRight_25 : decode c_Rs_faultOfRight 25 = .ok (.ifCond .eq 12, 3) := by decide +kernel
theorem d_Rs_faultOfRight_28 : decode c_Rs_faultOfRight 28 = .ok (.iload_n 2, 1) := by decide +kernel
theorem d_Rs_faultOfRight_29 : decode c_Rs_faultOfRight 29 = .ok (.iconst 1, 1) := by decide +kernel
theorem d_Rs_faultOfRight_30 : decode c_Rs_faultOfRight 30 = .ok (.iload 4, 2) := by decide +kernel
theorem d_Rs_faultOfRight_32 : decode c_Rs_faultOfRight 32 = .ok (.ishl, 1) := by decide +kernel
theorem d_Rs_faultOfRight_33 : decode c_Rs_faultOfRight 33 = .ok (.iand, 1) := by decide +kernel
theorem d_Rs_faultOfRight_34 : decode c_Rs_faultOfRight 34 = .ok (.ifCond .eq 5, 3) := by decide +kernel
theorem d_Rs_faultOfRight_37 : decode c_Rs_faultOfRight 37 = .ok (.iload_n 3, 1) := by decide +kernel
theorem d_Rs_faultOfRight_38 : decode c_Rs_faultOfRight 38 = .ok (.ireturn, 1) := by decide +kernel
theorem d_Rs_faultOfRight_39 : decode c_Rs_faultOfRight 39 = .ok (.iload_n 2, 1) := by decide +kernel
theorem d_Rs_faultOfRight_40 : decode c_Rs_faultOfRight 40 = .ok (.iconst 1, 1) := by decide +kernel
theorem d_Rs_faultOfRight_41 : decode c_Rs_faultOfRight 41 = .ok (.iload 4, 2) := by decide +kernel
theorem d_Rs_faultOfRight_43 : decode c_Rs_faultOfRight 43 = .ok (.ishl, 1) := by decide +kernel
theorem d_Rs_faultOfRight_44 : decode c_Rs_faultOfRight 44 = .ok (.ior, 1) := by decide +kernel
theorem d_Rs_faultOfRight_45 : decode c_Rs_faultOfRight 45 = .ok (.istore_n 2, 1) := by decide +kernel
theorem d_Rs_faultOfRight_46 : decode c_Rs_faultOfRight 46 = .ok (.iinc 3 1, 3) := by decide +kernel
theorem d_Rs_faultOfRight_49 : decode c_Rs_faultOfRight 49 = .ok (.goto (-45), 3) := by decide +kernel
theorem d_Rs_faultOfRight_52 : decode c_Rs_faultOfRight 52 = .ok (.iconst (-1), 1) := by decide +kernel
theorem d_Rs_faultOfRight_53 : decode c_Rs_faultOfRight 53 = .ok (.ireturn, 1) := by decide +kernel
theorem d_Rs_give_0 : decode c_Rs_give 0 = .ok (.iload_n 2, 1) := by decide +kernel
theorem d_Rs_give_1 : decode c_Rs_give 1 = .ok (.bipush 8, 2) := by decide +kernel
theorem d_Rs_give_3 : decode c_Rs_give 3 = .ok (.invokestatic 36, 3) := by decide +kernel
theorem d_Rs_give_6 : decode c_Rs_give 6 = .ok (.ifCond .eq 19, 3) := by decide +kernel
theorem d_Rs_give_9 : decode c_Rs_give 9 = .ok (.aload_n 0, 1) := by decide +kernel
theorem d_Rs_give_10 : decode c_Rs_give 10 = .ok (.getfield 22, 3) := by decide +kernel
theorem d_Rs_give_13 : decode c_Rs_give 13 = .ok (.iload_n 2, 1) := by decide +kernel
theorem d_Rs_give_14 : decode c_Rs_give 14 = .ok (.iload_n 1, 1) := by decide +kernel
theorem d_Rs_give_15 : decode c_Rs_give 15 = .ok (.iastore, 1) := by decide +kernel
theorem d_Rs_give_16 : decode c_Rs_give 16 = .ok (.aload_n 0, 1) := by decide +kernel
theorem d_Rs_give_17 : decode c_Rs_give 17 = .ok (.iload_n 1, 1) := by decide +kernel
theorem d_Rs_give_18 : decode c_Rs_give 18 = .ok (.invokevirtual 44, 3) := by decide +kernel
theorem d_Rs_give_21 : decode c_Rs_give 21 = .ok (.iload_n 2, 1) := by decide +kernel
theorem d_Rs_give_22 : decode c_Rs_give 22 = .ok (.putfield 92, 3) := by decide +kernel
theorem d_Rs_give_25 : decode c_Rs_give 25 = .ok (.return_, 1) := by decide +kernel
def f_JM_min (v0 : Int32) (v1 : Int32) : Int32 :=
  if v1 < v0 then v1 else v0
set_option maxHeartbeats 4000000 in
theorem j_JM_min {V : Vx} {X : Xx} {r : Int32} (σ : Sg) (v0 : Int32) (v1 : Int32) (hf : f_JM_min v0 v1 = r) : J V X (k2_rm 0 0) c_JM_min R_JM 2 (some .int) (Qr V X (some (.int r)) σ) σ 0 [(0, .int v0), (1, .int v1)] [] := by
  unfold f_JM_min at hf
  refine J_iload_n (pc' := 1) d_JM_min_0 rfl 0 rfl ?_
  refine J_iload_n (pc' := 2) d_JM_min_1 rfl 1 rfl ?_
  refine J_icmp_gt (pc' := 5) (tgt := 9) d_JM_min_2 rfl (by decide) (fun hc1 => ?_) (fun hc1 => ?_)
  · have hf := brT hc1 hf
    refine J_iload_n (pc' := 10) d_JM_min_9 rfl 1 rfl ?_
    subst hf
    exact J_iret d_JM_min_10
  · have hf := brF hc1 hf
    refine J_iload_n (pc' := 6) d_JM_min_5 rfl 0 rfl ?_
    refine J_goto (tgt := 10) d_JM_min_6 (by decide) ?_
    subst hf
    exact J_iret d_JM_min_10
theorem ct_JM_min (V : Vx) (l : Launch) (σ : Sg) (v0 : Int32) (v1 : Int32) : Ct V l y_JM_min c_JM_min 2 (some .int) (k2_rm 0 0) [.int v0, .int v1] σ (some (.int (f_JM_min v0 v1))) σ := Ct.ofJ (by decide +kernel) (Nat.le_of_ble_eq_true rfl) fun X _ => j_JM_min _ v0 v1 rfl
def f_GR_isBelow (v0 : Int32) (v1 : Int32) : Int32 :=
  if v0 < 0 then 0 else if v1 ≤ v0 then 0 else 1
set_option maxHeartbeats 4000000 in
theorem j_GR_isBelow {V : Vx} {X : Xx} {r : Int32} (σ : Sg) (v0 : Int32) (v1 : Int32) (hf : f_GR_isBelow v0 v1 = r) : J V X (k2_rm 0 0) c_GR_isBelow R_GR 2 (some .boolean) (Qr V X (some (.int r)) σ) σ 0 [(0, .int v0), (1, .int v1)] [] := by
  unfold f_GR_isBelow at hf
  refine J_iload_n (pc' := 1) d_GR_isBelow_0 rfl 0 rfl ?_
  refine J_if_lt (pc' := 4) (tgt := 13) d_GR_isBelow_1 rfl (by decide) (fun hc1 => ?_) (fun hc1 => ?_)
  · have hf := brT hc1 hf
    refine J_iconst (pc' := 14) (v := 0) d_GR_isBelow_13 rfl ic_0 ?_
    subst hf
    exact J_zret (by decide) d_GR_isBelow_14
  · have hf := brF hc1 hf
    refine J_iload_n (pc' := 5) d_GR_isBelow_4 rfl 0 rfl ?_
    refine J_iload_n (pc' := 6) d_GR_isBelow_5 rfl 1 rfl ?_
    refine J_icmp_ge (pc' := 9) (tgt := 13) d_GR_isBelow_6 rfl (by decide) (fun hc2 => ?_) (fun hc2 => ?_)
    · have hf := brT hc2 hf
      refine J_iconst (pc' := 14) (v := 0) d_GR_isBelow_13 rfl ic_0 ?_
      subst hf
      exact J_zret (by decide) d_GR_isBelow_14
    · have hf := brF hc2 hf
      refine J_iconst (pc' := 10) (v := 1) d_GR_isBelow_9 rfl ic_1 ?_
      refine J_goto (tgt := 14) d_GR_isBelow_10 (by decide) ?_
      subst hf
      exact J_zret (by decide) d_GR_isBelow_14
theorem ct_GR_isBelow (V : Vx) (l : Launch) (σ : Sg) (v0 : Int32) (v1 : Int32) : Ct V l y_GR_isBelow c_GR_isBelow 2 (some .boolean) (k2_rm 0 0) [.int v0, .int v1] σ (some (.int (f_GR_isBelow v0 v1))) σ := Ct.ofJ (by decide +kernel) (Nat.le_of_ble_eq_true rfl) fun X _ => j_GR_isBelow _ v0 v1 rfl
theorem vin_b {x : Int32} {n : Int32} {m : Nat} (h : ¬ f_GR_isBelow x n = 0) (hm : n = Int32.ofNat m := by rfl) (hl : m < 2 ^ 31 := by decide) : vp_in x m := by
  unfold f_GR_isBelow at h
  by_cases h1 : x < 0
  · simp [h1] at h
  · by_cases h2 : n ≤ x
    · simp [h1, h2] at h
    · subst hm
      intro h3
      rcases h3 with h3 | h3
      · exact h1 h3
      · obtain ⟨j, hj, rfl⟩ := nI_of h1
        rw [nI_clamp hj] at h3
        exact h2 (nI_le h3 hj)
theorem bel_lt {x : Int32} {n : Int32} {m : Nat} (h : ¬ f_GR_isBelow x n = 0) (hm : n = Int32.ofNat m := by rfl) (hl : m < 2 ^ 31 := by decide) : x.toNatClampNeg < m := Nat.not_le.mp fun q => vin_b h hm hl (Or.inr q)
def f_GR_textOf (v1 : Int32) : Nat :=
  if v1 = 0 then 1 else 3
set_option maxHeartbeats 4000000 in
theorem j_GR_textOf {V : Vx} {X : Xx} {r : Nat} (σ : Sg) (v1 : Int32) (hf : f_GR_textOf v1 = r) : J V X (k2_rm 0 0) c_GR_textOf R_GR 2 (some (.object "GorgeRopes$Text")) (Qr V X (some (rf V r)) σ) σ 0 [(0, rf V 0), (1, .int v1)] [] := by
  unfold f_GR_textOf at hf
  refine J_iload_n (pc' := 1) d_GR_textOf_0 rfl 1 rfl ?_
  refine J_if_ne (pc' := 4) (tgt := 11) d_GR_textOf_1 rfl (by decide) (fun hc1 => ?_) (fun hc1 => ?_)
  · have hf := brF hc1 hf
    refine J_aload_n (pc' := 12) d_GR_textOf_11 rfl 0 rfl ?_
    refine J_getR (pc' := 15) d_GR_textOf_12 rfl sh_0 fl_GR_18 rfl ?_
    subst hf
    exact J_aret d_GR_textOf_15
  · have hf := brT hc1 hf
    refine J_aload_n (pc' := 5) d_GR_textOf_4 rfl 0 rfl ?_
    refine J_getR (pc' := 8) d_GR_textOf_5 rfl sh_0 fl_GR_14 rfl ?_
    refine J_goto (tgt := 15) d_GR_textOf_8 (by decide) ?_
    subst hf
    exact J_aret d_GR_textOf_15
theorem ct_GR_textOf (V : Vx) (l : Launch) (σ : Sg) (v1 : Int32) : Ct V l y_GR_textOf c_GR_textOf 2 (some (.object "GorgeRopes$Text")) (k2_rm 0 0) [rf V 0, .int v1] σ (some (rf V (f_GR_textOf v1))) σ := Ct.ofJ (by decide +kernel) (Nat.le_of_ble_eq_true rfl) fun X _ => j_GR_textOf _ v1 rfl
theorem is_GR_textOf (v1 : Int32) : is_Te (f_GR_textOf v1) := by
  unfold f_GR_textOf is_Te; split <;> omega
def f_Te_isFull (σ : Sg) (v0 : Nat) : Int32 :=
  if (σ.1 v0 2) < (σ.1 v0 1) then 0 else 1
set_option maxHeartbeats 4000000 in
theorem j_Te_isFull {V : Vx} {X : Xx} {r : Int32} (σ : Sg) (v0 : Nat) (iv0 : is_Te v0) (hf : f_Te_isFull σ v0 = r) : J V X (k2_rm 0 0) c_Te_isFull R_Te 1 (some .boolean) (Qr V X (some (.int r)) σ) σ 0 [(0, rf V v0)] [] := by
  unfold f_Te_isFull at hf
  refine J_aload_n (pc' := 1) d_Te_isFull_0 rfl 0 rfl ?_
  refine J_getI (pc' := 4) d_Te_isFull_1 rfl (sh_Te iv0) fl_Te_25 rfl ?_
  refine J_aload_n (pc' := 5) d_Te_isFull_4 rfl 0 rfl ?_
  refine J_getI (pc' := 8) d_Te_isFull_5 rfl (sh_Te iv0) fl_Te_21 rfl ?_
  refine J_icmp_lt (pc' := 11) (tgt := 15) d_Te_isFull_8 rfl (by decide) (fun hc1 => ?_) (fun hc1 => ?_)
  · have hf := brT hc1 hf
    refine J_iconst (pc' := 16) (v := 0) d_Te_isFull_15 rfl ic_0 ?_
    subst hf
    exact J_zret (by decide) d_Te_isFull_16
  · have hf := brF hc1 hf
    refine J_iconst (pc' := 12) (v := 1) d_Te_isFull_11 rfl ic_1 ?_
    refine J_goto (tgt := 16) d_Te_isFull_12 (by decide) ?_
    subst hf
    exact J_zret (by decide) d_Te_isFull_16
theorem ct_Te_isFull (V : Vx) (l : Launch) (σ : Sg) (v0 : Nat) (iv0 : is_Te v0) : Ct V l y_Te_isFull c_Te_isFull 1 (some .boolean) (k2_rm 0 0) [rf V v0] σ (some (.int (f_Te_isFull σ v0))) σ := Ct.ofJ (by decide +kernel) (Nat.le_of_ble_eq_true rfl) fun X _ => j_Te_isFull _ v0 iv0 rfl
def f_Te_append (σ : Sg) (v0 : Nat) (v1 : Int32) : Option Sg :=
  if (f_GR_isBelow (σ.1 v0 2) (σ.1 v0 1)) = 0 then
    some σ
  else
    gd (vin (σ.1 v0 2) 60) (
      some (pI (pI σ (v0 + 1) (σ.1 v0 2).toNatClampNeg v1) v0 2 (((pI σ (v0 + 1) (σ.1 v0 2).toNatClampNeg v1).1 v0 2) + 1)))
set_option maxHeartbeats 4000000 in
theorem j_Te_append {V : Vx} {X : Xx} {σ' : Sg} (σ : Sg) (v0 : Nat) (v1 : Int32) (iv0 : is_Te v0) (hf : f_Te_append σ v0 v1 = some σ') : J V X (k2_rm 1 21) c_Te_append R_Te 2 none (Qr V X none σ') σ 0 [(0, rf V v0), (1, .int v1)] [] := by
  unfold f_Te_append at hf
  refine J_aload_n (pc' := 1) d_Te_append_0 rfl 0 rfl ?_
  refine J_getI (pc' := 4) d_Te_append_1 rfl (sh_Te iv0) fl_Te_25 rfl ?_
  refine J_aload_n (pc' := 5) d_Te_append_4 rfl 0 rfl ?_
  refine J_getI (pc' := 8) d_Te_append_5 rfl (sh_Te iv0) fl_Te_21 rfl ?_
  refine J_S (pc' := 11) (as := [.int (σ.1 v0 2), .int (σ.1 v0 1)]) (rest := []) (st' := [.int (f_GR_isBelow (σ.1 v0 2) (σ.1 v0 1))]) d_Te_append_8 rfl ms_Te_28 (ct_GR_isBelow V _ σ (σ.1 v0 2) (σ.1 v0 1)) rfl rfl ⟨Nat.le_of_ble_eq_true rfl, Nat.le_of_ble_eq_true rfl⟩ ⟨rfl, rfl⟩ (Nat.le_of_ble_eq_true rfl) rfl ?_
  refine J_if_eq (pc' := 14) (tgt := 34) d_Te_append_11 rfl (by decide) (fun hc1 => ?_) (fun hc1 => ?_)
  · have hf := brT hc1 hf
    obtain rfl := Option.some.inj hf
    exact J_vret d_Te_append_34
  · have hf := brF hc1 hf
    refine J_aload_n (pc' := 15) d_Te_append_14 rfl 0 rfl ?_
    refine J_getR (pc' := 18) d_Te_append_15 rfl (sh_Te iv0) fl_Te_9 rfl ?_
    refine J_aload_n (pc' := 19) d_Te_append_18 rfl 0 rfl ?_
    refine J_getI (pc' := 22) d_Te_append_19 rfl (sh_Te iv0) fl_Te_25 rfl ?_
    refine J_iload_n (pc' := 23) d_Te_append_22 rfl 1 rfl ?_
    obtain ⟨hg2, hf⟩ := gdE hf
    refine J_ias (pc' := 24) d_Te_append_23 rfl (sh_Te_a iv0) (vinP hg2) ?_
    refine J_aload_n (pc' := 25) d_Te_append_24 rfl 0 rfl ?_
    refine J_dup (pc' := 26) d_Te_append_25 rfl rfl ?_
    refine J_getI (pc' := 29) d_Te_append_26 rfl (sh_Te iv0) fl_Te_25 rfl ?_
    refine J_iconst (pc' := 30) (v := 1) d_Te_append_29 rfl ic_1 ?_
    refine J_iadd (pc' := 31) d_Te_append_30 rfl ?_
    refine J_putI (pc' := 34) d_Te_append_31 rfl (sh_Te iv0) fp_Te_25 rfl ?_
    obtain rfl := Option.some.inj hf
    exact J_vret d_Te_append_34
theorem ct_Te_append (V : Vx) (l : Launch) (σ : Sg) (v0 : Nat) (v1 : Int32) (iv0 : is_Te v0) {σ' : Sg} (hf : f_Te_append σ v0 v1 = some σ') : Ct V l y_Te_append c_Te_append 2 none (k2_rm 1 21) [rf V v0, .int v1] σ none σ' := Ct.ofJ (by decide +kernel) (Nat.le_of_ble_eq_true rfl) fun X _ => j_Te_append _ v0 v1 iv0 hf
def f_Te_at (σ : Sg) (v0 : Nat) (v1 : Int32) : Option Int32 :=
  if (f_GR_isBelow v1 (σ.1 v0 2)) = 0 then
    some (-1)
  else
    gd (vin v1 60) (
      some (σ.1 (v0 + 1) v1.toNatClampNeg))
set_option maxHeartbeats 4000000 in
theorem j_Te_at {V : Vx} {X : Xx} {r : Int32} (σ : Sg) (v0 : Nat) (v1 : Int32) (iv0 : is_Te v0) (hf : f_Te_at σ v0 v1 = some r) : J V X (k2_rm 1 21) c_Te_at R_Te 2 (some .int) (Qr V X (some (.int r)) σ) σ 0 [(0, rf V v0), (1, .int v1)] [] := by
  unfold f_Te_at at hf
  refine J_iload_n (pc' := 1) d_Te_at_0 rfl 1 rfl ?_
  refine J_aload_n (pc' := 2) d_Te_at_1 rfl 0 rfl ?_
  refine J_getI (pc' := 5) d_Te_at_2 rfl (sh_Te iv0) fl_Te_25 rfl ?_
  refine J_S (pc' := 8) (as := [.int v1, .int (σ.1 v0 2)]) (rest := []) (st' := [.int (f_GR_isBelow v1 (σ.1 v0 2))]) d_Te_at_5 rfl ms_Te_28 (ct_GR_isBelow V _ σ v1 (σ.1 v0 2)) rfl rfl ⟨Nat.le_of_ble_eq_true rfl, Nat.le_of_ble_eq_true rfl⟩ ⟨rfl, rfl⟩ (Nat.le_of_ble_eq_true rfl) rfl ?_
  refine J_if_eq (pc' := 11) (tgt := 20) d_Te_at_8 rfl (by decide) (fun hc1 => ?_) (fun hc1 => ?_)
  · have hf := brT hc1 hf
    refine J_iconst (pc' := 21) (v := (-1)) d_Te_at_20 rfl ic_m1 ?_
    obtain rfl := Option.some.inj hf
    exact J_iret d_Te_at_21
  · have hf := brF hc1 hf
    refine J_aload_n (pc' := 12) d_Te_at_11 rfl 0 rfl ?_
    refine J_getR (pc' := 15) d_Te_at_12 rfl (sh_Te iv0) fl_Te_9 rfl ?_
    refine J_iload_n (pc' := 16) d_Te_at_15 rfl 1 rfl ?_
    obtain ⟨hg2, hf⟩ := gdE hf
    refine J_ial (pc' := 17) d_Te_at_16 rfl (sh_Te_a iv0) (vinP hg2) ?_
    refine J_goto (tgt := 21) d_Te_at_17 (by decide) ?_
    obtain rfl := Option.some.inj hf
    exact J_iret d_Te_at_21
theorem ct_Te_at (V : Vx) (l : Launch) (σ : Sg) (v0 : Nat) (v1 : Int32) (iv0 : is_Te v0) {r : Int32} (hf : f_Te_at σ v0 v1 = some r) : Ct V l y_Te_at c_Te_at 2 (some .int) (k2_rm 1 21) [rf V v0, .int v1] σ (some (.int r)) σ := Ct.ofJ (by decide +kernel) (Nat.le_of_ble_eq_true rfl) fun X _ => j_Te_at _ v0 v1 iv0 hf
def f_Te_figureAt (σ : Sg) (v0 : Nat) (v1 : Int32) : Option Int32 :=
  (f_Te_at σ v0 v1).bind fun r2 =>
    if (f_GR_isBelow (r2 - 48) 10) = 0 then some (-1) else some (r2 - 48)
set_option maxHeartbeats 4000000 in
theorem j_Te_figureAt {V : Vx} {X : Xx} {r : Int32} (σ : Sg) (v0 : Nat) (v1 : Int32) (iv0 : is_Te v0) (hf : f_Te_figureAt σ v0 v1 = some r) : J V X (k2_rm 2 42) c_Te_figureAt R_Te 3 (some .int) (Qr V X (some (.int r)) σ) σ 0 [(0, rf V v0), (1, .int v1)] [] := by
  unfold f_Te_figureAt at hf
  refine J_aload_n (pc' := 1) d_Te_figureAt_0 rfl 0 rfl ?_
  refine J_iload_n (pc' := 2) d_Te_figureAt_1 rfl 1 rfl ?_
  obtain ⟨r2, hq1, hf⟩ := bpE hf
  refine J_V (pc' := 5) (as := [.int v1]) (rest := []) (st' := [.int r2]) d_Te_figureAt_2 rfl (sh_Te iv0) rfl mv_Te_32 (ct_Te_at V _ σ v0 v1 iv0 hq1) rfl rfl ⟨Nat.le_of_ble_eq_true rfl, Nat.le_of_ble_eq_true rfl⟩ ⟨rfl, rfl⟩ (Nat.le_of_ble_eq_true rfl) rfl ?_
  refine J_bipush (pc' := 7) (v := 48) d_Te_figureAt_5 rfl bc_48 ?_
  refine J_isub (pc' := 8) d_Te_figureAt_7 rfl ?_
  refine J_istore_n (pc' := 9) (lv' := [(2, .int (r2 - 48)), (0, rf V v0), (1, .int v1)]) d_Te_figureAt_8 rfl rfl (by decide) rfl ?_
  refine J_iload_n (pc' := 10) d_Te_figureAt_9 rfl 0 rfl ?_
  refine J_bipush (pc' := 12) (v := 10) d_Te_figureAt_10 rfl bc_10 ?_
  refine J_S (pc' := 15) (as := [.int (r2 - 48), .int 10]) (rest := []) (st' := [.int (f_GR_isBelow (r2 - 48) 10)]) d_Te_figureAt_12 rfl ms_Te_28 (ct_GR_isBelow V _ σ (r2 - 48) 10) rfl rfl ⟨Nat.le_of_ble_eq_true rfl, Nat.le_of_ble_eq_true rfl⟩ ⟨rfl, rfl⟩ (Nat.le_of_ble_eq_true rfl) rfl ?_
  refine J_if_eq (pc' := 18) (tgt := 22) d_Te_figureAt_15 rfl (by decide) (fun hc3 => ?_) (fun hc3 => ?_)
  · have hf := brT hc3 hf
    refine J_iconst (pc' := 23) (v := (-1)) d_Te_figureAt_22 rfl ic_m1 ?_
    obtain rfl := Option.some.inj hf
    exact J_iret d_Te_figureAt_23
  · have hf := brF hc3 hf
    refine J_iload_n (pc' := 19) d_Te_figureAt_18 rfl 0 rfl ?_
    refine J_goto (tgt := 23) d_Te_figureAt_19 (by decide) ?_
    obtain rfl := Option.some.inj hf
    exact J_iret d_Te_figureAt_23
theorem ct_Te_figureAt (V : Vx) (l : Launch) (σ : Sg) (v0 : Nat) (v1 : Int32) (iv0 : is_Te v0) {r : Int32} (hf : f_Te_figureAt σ v0 v1 = some r) : Ct V l y_Te_figureAt c_Te_figureAt 3 (some .int) (k2_rm 2 42) [rf V v0, .int v1] σ (some (.int r)) σ := Ct.ofJ (by decide +kernel) (Nat.le_of_ble_eq_true rfl) fun X _ => j_Te_figureAt _ v0 v1 iv0 hf
def f_Rs_kindOf (v0 : Int32) : Int32 :=
  if v0 = 98 then 0 else
  if v0 = 99 then 2 else
  if v0 = 104 then 1 else
    (-1)
set_option maxHeartbeats 4000000 in
theorem j_Rs_kindOf {V : Vx} {X : Xx} {r : Int32} (σ : Sg) (v0 : Int32) (hf : f_Rs_kindOf v0 = r) : J V X (k2_rm 0 0) c_Rs_kindOf R_Rs 1 (some .int) (Qr V X (some (.int r)) σ) σ 0 [(0, .int v0)] [] := by
  unfold f_Rs_kindOf at hf
  refine J_iload_n (pc' := 1) d_Rs_kindOf_0 rfl 0 rfl ?_
  by_cases hc1 : v0 = 98
  · have hf := brT hc1 hf
    refine J_lks (tgt := 36) (off := 35) d_Rs_kindOf_1 rfl (by rw [hc1]; decide) (by decide) ?_
    refine J_iconst (pc' := 37) (v := 0) d_Rs_kindOf_36 rfl ic_0 ?_
    subst hf
    exact J_iret d_Rs_kindOf_37
  · have hf := brF hc1 hf
    by_cases hc2 : v0 = 99
    · have hf := brT hc2 hf
      refine J_lks (tgt := 40) (off := 39) d_Rs_kindOf_1 rfl (by rw [hc2]; decide) (by decide) ?_
      refine J_iconst (pc' := 41) (v := 2) d_Rs_kindOf_40 rfl ic_2 ?_
      subst hf
      exact J_iret d_Rs_kindOf_41
    · have hf := brF hc2 hf
      by_cases hc3 : v0 = 104
      · have hf := brT hc3 hf
        refine J_lks (tgt := 38) (off := 37) d_Rs_kindOf_1 rfl (by rw [hc3]; decide) (by decide) ?_
        refine J_iconst (pc' := 39) (v := 1) d_Rs_kindOf_38 rfl ic_1 ?_
        subst hf
        exact J_iret d_Rs_kindOf_39
      · have hf := brF hc3 hf
        have ehc1 := neI (z := 98) hc1 (by decide)
        have ehc2 := neI (z := 99) hc2 (by decide)
        have ehc3 := neI (z := 104) hc3 (by decide)
        refine J_lks (tgt := 42) (off := 41) d_Rs_kindOf_1 rfl (by simp [Op.lookupswitch.offset, ehc1, ehc1.symm, ehc2, ehc2.symm, ehc3, ehc3.symm]) (by decide) ?_
        refine J_iconst (pc' := 43) (v := (-1)) d_Rs_kindOf_42 rfl ic_m1 ?_
        subst hf
        exact J_iret d_Rs_kindOf_43
theorem ct_Rs_kindOf (V : Vx) (l : Launch) (σ : Sg) (v0 : Int32) : Ct V l y_Rs_kindOf c_Rs_kindOf 1 (some .int) (k2_rm 0 0) [.int v0] σ (some (.int (f_Rs_kindOf v0))) σ := Ct.ofJ (by decide +kernel) (Nat.le_of_ble_eq_true rfl) fun X _ => j_Rs_kindOf _ v0 rfl
def f_Rs_valueOf (v0 : Int32) (v1 : Int32) (v2 : Int32) : Int32 :=
  if v0 = 2 then f_Rs_kindOf v1 else if v0 = 6 then if v1 = 59 then 0 else (-1) else if v0 = 5 then if v2 < 5 then v2 else (-1) else v2
set_option maxHeartbeats 4000000 in
theorem j_Rs_valueOf {V : Vx} {X : Xx} {r : Int32} (σ : Sg) (v0 : Int32) (v1 : Int32) (v2 : Int32) (hf : f_Rs_valueOf v0 v1 v2 = r) : J V X (k2_rm 1 20) c_Rs_valueOf R_Rs 3 (some .int) (Qr V X (some (.int r)) σ) σ 0 [(0, .int v0), (1, .int v1), (2, .int v2)] [] := by
  unfold f_Rs_valueOf at hf
  refine J_iload_n (pc' := 1) d_Rs_valueOf_0 rfl 0 rfl ?_
  refine J_iconst (pc' := 2) (v := 2) d_Rs_valueOf_1 rfl ic_2 ?_
  refine J_icmp_ne (pc' := 5) (tgt := 10) d_Rs_valueOf_2 rfl (by decide) (fun hc1 => ?_) (fun hc1 => ?_)
  · have hf := brF hc1 hf
    refine J_iload_n (pc' := 11) d_Rs_valueOf_10 rfl 0 rfl ?_
    refine J_bipush (pc' := 13) (v := 6) d_Rs_valueOf_11 rfl bc_6 ?_
    refine J_icmp_ne (pc' := 16) (tgt := 28) d_Rs_valueOf_13 rfl (by decide) (fun hc2 => ?_) (fun hc2 => ?_)
    · have hf := brF hc2 hf
      refine J_iload_n (pc' := 29) d_Rs_valueOf_28 rfl 0 rfl ?_
      refine J_iconst (pc' := 30) (v := 5) d_Rs_valueOf_29 rfl ic_5 ?_
      refine J_icmp_ne (pc' := 33) (tgt := 40) d_Rs_valueOf_30 rfl (by decide) (fun hc3 => ?_) (fun hc3 => ?_)
      · have hf := brF hc3 hf
        refine J_iload_n (pc' := 41) d_Rs_valueOf_40 rfl 2 rfl ?_
        subst hf
        exact J_iret d_Rs_valueOf_41
      · have hf := brT hc3 hf
        refine J_iload_n (pc' := 34) d_Rs_valueOf_33 rfl 2 rfl ?_
        refine J_iconst (pc' := 35) (v := 5) d_Rs_valueOf_34 rfl ic_5 ?_
        refine J_icmp_lt (pc' := 38) (tgt := 40) d_Rs_valueOf_35 rfl (by decide) (fun hc4 => ?_) (fun hc4 => ?_)
        · have hf := brT hc4 hf
          refine J_iload_n (pc' := 41) d_Rs_valueOf_40 rfl 2 rfl ?_
          subst hf
          exact J_iret d_Rs_valueOf_41
        · have hf := brF hc4 hf
          refine J_iconst (pc' := 39) (v := (-1)) d_Rs_valueOf_38 rfl ic_m1 ?_
          subst hf
          exact J_iret d_Rs_valueOf_39
    · have hf := brT hc2 hf
      refine J_iload_n (pc' := 17) d_Rs_valueOf_16 rfl 1 rfl ?_
      refine J_bipush (pc' := 19) (v := 59) d_Rs_valueOf_17 rfl bc_59 ?_
      refine J_icmp_ne (pc' := 22) (tgt := 26) d_Rs_valueOf_19 rfl (by decide) (fun hc5 => ?_) (fun hc5 => ?_)
      · have hf := brF hc5 hf
        refine J_iconst (pc' := 27) (v := (-1)) d_Rs_valueOf_26 rfl ic_m1 ?_
        subst hf
        exact J_iret d_Rs_valueOf_27
      · have hf := brT hc5 hf
        refine J_iconst (pc' := 23) (v := 0) d_Rs_valueOf_22 rfl ic_0 ?_
        refine J_goto (tgt := 27) d_Rs_valueOf_23 (by decide) ?_
        subst hf
        exact J_iret d_Rs_valueOf_27
  · have hf := brT hc1 hf
    refine J_iload_n (pc' := 6) d_Rs_valueOf_5 rfl 1 rfl ?_
    refine J_S (pc' := 9) (as := [.int v1]) (rest := []) (st' := [.int (f_Rs_kindOf v1)]) d_Rs_valueOf_6 rfl ms_Rs_86 (ct_Rs_kindOf V _ σ v1) rfl rfl ⟨Nat.le_of_ble_eq_true rfl, Nat.le_of_ble_eq_true rfl⟩ ⟨rfl, rfl⟩ (Nat.le_of_ble_eq_true rfl) rfl ?_
    subst hf
    exact J_iret d_Rs_valueOf_9
theorem ct_Rs_valueOf (V : Vx) (l : Launch) (σ : Sg) (v0 : Int32) (v1 : Int32) (v2 : Int32) : Ct V l y_Rs_valueOf c_Rs_valueOf 3 (some .int) (k2_rm 1 20) [.int v0, .int v1, .int v2] σ (some (.int (f_Rs_valueOf v0 v1 v2))) σ := Ct.ofJ (by decide +kernel) (Nat.le_of_ble_eq_true rfl) fun X _ => j_Rs_valueOf _ v0 v1 v2 rfl
def f_Rs_at (v1 : Int32) : Nat :=
  if (f_GR_isBelow v1 8) = 0 then 7 else 9 + v1.toNatClampNeg
set_option maxHeartbeats 4000000 in
theorem j_Rs_at {V : Vx} {X : Xx} {r : Nat} (σ : Sg) (v1 : Int32) (hf : f_Rs_at v1 = r) : J V X (k2_rm 1 21) c_Rs_at R_Rs 3 (some (.object "GorgeRopes$Rope")) (Qr V X (some (rf V r)) σ) σ 0 [(0, rf V 5), (1, .int v1)] [] := by
  unfold f_Rs_at at hf
  refine J_iload_n (pc' := 1) d_Rs_at_0 rfl 1 rfl ?_
  refine J_bipush (pc' := 3) (v := 8) d_Rs_at_1 rfl bc_8 ?_
  refine J_S (pc' := 6) (as := [.int v1, .int 8]) (rest := []) (st' := [.int (f_GR_isBelow v1 8)]) d_Rs_at_3 rfl ms_Rs_36 (ct_GR_isBelow V _ σ v1 8) rfl rfl ⟨Nat.le_of_ble_eq_true rfl, Nat.le_of_ble_eq_true rfl⟩ ⟨rfl, rfl⟩ (Nat.le_of_ble_eq_true rfl) rfl ?_
  refine J_if_eq (pc' := 9) (tgt := 18) d_Rs_at_6 rfl (by decide) (fun hc1 => ?_) (fun hc1 => ?_)
  · have hf := brT hc1 hf
    refine J_null (pc' := 19) d_Rs_at_18 rfl ?_
    refine J_astoreN_n (pc' := 20) (lv' := [(2, .null), (0, rf V 5), (1, .int v1)]) d_Rs_at_19 rfl rfl (by decide) rfl ?_
    refine J_aloadN_n (pc' := 21) d_Rs_at_20 rfl 0 rfl ?_
    refine J_ifnnN (pc' := 24) d_Rs_at_21 rfl ?_
    refine J_aload_n (pc' := 25) d_Rs_at_24 rfl 1 rfl ?_
    refine J_getR (pc' := 28) d_Rs_at_25 rfl sh_5 fl_Rs_18 rfl ?_
    refine J_goto (tgt := 32) d_Rs_at_28 (by decide) ?_
    subst hf
    exact J_aret d_Rs_at_32
  · have hf := brF hc1 hf
    refine J_aload_n (pc' := 10) d_Rs_at_9 rfl 0 rfl ?_
    refine J_getR (pc' := 13) d_Rs_at_10 rfl sh_5 fl_Rs_11 rfl ?_
    refine J_iload_n (pc' := 14) d_Rs_at_13 rfl 1 rfl ?_
    refine J_aal2 (pc' := 15) d_Rs_at_14 rfl sh_6 (vin_b hc1) ?_
    refine J_goto (tgt := 19) d_Rs_at_15 (by decide) ?_
    refine J_astore_n (pc' := 20) (lv' := [(2, rf V (9 + v1.toNatClampNeg)), (0, rf V 5), (1, .int v1)]) d_Rs_at_19 rfl rfl (by decide) rfl ?_
    refine J_aload_n (pc' := 21) d_Rs_at_20 rfl 0 rfl ?_
    refine J_ifnn (tgt := 31) d_Rs_at_21 (by decide) ?_
    refine J_aload_n (pc' := 32) d_Rs_at_31 rfl 0 rfl ?_
    subst hf
    exact J_aret d_Rs_at_32
theorem ct_Rs_at (V : Vx) (l : Launch) (σ : Sg) (v1 : Int32) : Ct V l y_Rs_at c_Rs_at 3 (some (.object "GorgeRopes$Rope")) (k2_rm 1 21) [rf V 5, .int v1] σ (some (rf V (f_Rs_at v1))) σ := Ct.ofJ (by decide +kernel) (Nat.le_of_ble_eq_true rfl) fun X _ => j_Rs_at _ v1 rfl
theorem is_Rs_at (v1 : Int32) : is_Ro (f_Rs_at v1) := by
  unfold f_Rs_at is_Ro
  split
  · omega
  · have := bel_lt (m := 8) (by assumption); omega
def f_JM_max (v0 : Int32) (v1 : Int32) : Int32 :=
  if v0 < v1 then v1 else v0
set_option maxHeartbeats 4000000 in
theorem j_JM_max {V : Vx} {X : Xx} {r : Int32} (σ : Sg) (v0 : Int32) (v1 : Int32) (hf : f_JM_max v0 v1 = r) : J V X (k2_rm 0 0) c_JM_max R_JM 2 (some .int) (Qr V X (some (.int r)) σ) σ 0 [(0, .int v0), (1, .int v1)] [] := by
  unfold f_JM_max at hf
  refine J_iload_n (pc' := 1) d_JM_max_0 rfl 0 rfl ?_
  refine J_iload_n (pc' := 2) d_JM_max_1 rfl 1 rfl ?_
  refine J_icmp_lt (pc' := 5) (tgt := 9) d_JM_max_2 rfl (by decide) (fun hc1 => ?_) (fun hc1 => ?_)
  · have hf := brT hc1 hf
    refine J_iload_n (pc' := 10) d_JM_max_9 rfl 1 rfl ?_
    subst hf
    exact J_iret d_JM_max_10
  · have hf := brF hc1 hf
    refine J_iload_n (pc' := 6) d_JM_max_5 rfl 0 rfl ?_
    refine J_goto (tgt := 10) d_JM_max_6 (by decide) ?_
    subst hf
    exact J_iret d_JM_max_10
theorem ct_JM_max (V : Vx) (l : Launch) (σ : Sg) (v0 : Int32) (v1 : Int32) : Ct V l y_JM_max c_JM_max 2 (some .int) (k2_rm 0 0) [.int v0, .int v1] σ (some (.int (f_JM_max v0 v1))) σ := Ct.ofJ (by decide +kernel) (Nat.le_of_ble_eq_true rfl) fun X _ => j_JM_max _ v0 v1 rfl
def f_Ro_hang (σ : Sg) (v0 : Nat) (v1 : Int32) (v2 : Int32) : Option Sg :=
  some (pI (pI (pI (pI σ v0 0 v1) v0 1 v2) v0 7 (f_JM_max 0 (((pI (pI σ v0 0 v1) v0 1 v2).1 v0 1) - ((pI (pI σ v0 0 v1) v0 1 v2).1 v0 0)))) v0 8 (f_JM_max 0 (((pI (pI (pI σ v0 0 v1) v0 1 v2) v0 7 (f_JM_max 0 (((pI (pI σ v0 0 v1) v0 1 v2).1 v0 1) - ((pI (pI σ v0 0 v1) v0 1 v2).1 v0 0)))).1 v0 0) - ((pI (pI (pI σ v0 0 v1) v0 1 v2) v0 7 (f_JM_max 0 (((pI (pI σ v0 0 v1) v0 1 v2).1 v0 1) - ((pI (pI σ v0 0 v1) v0 1 v2).1 v0 0)))).1 v0 1))))
set_option maxHeartbeats 4000000 in
theorem j_Ro_hang {V : Vx} {X : Xx} {σ' : Sg} (σ : Sg) (v0 : Nat) (v1 : Int32) (v2 : Int32) (iv0 : is_Ro v0) (hf : f_Ro_hang σ v0 v1 v2 = some σ') : J V X (k2_rm 1 21) c_Ro_hang R_Ro 3 none (Qr V X none σ') σ 0 [(0, rf V v0), (1, .int v1), (2, .int v2)] [] := by
  unfold f_Ro_hang at hf
  refine J_aload_n (pc' := 1) d_Ro_hang_0 rfl 0 rfl ?_
  refine J_iload_n (pc' := 2) d_Ro_hang_1 rfl 1 rfl ?_
  refine J_putI (pc' := 5) d_Ro_hang_2 rfl (sh_Ro iv0) fp_Ro_7 rfl ?_
  refine J_aload_n (pc' := 6) d_Ro_hang_5 rfl 0 rfl ?_
  refine J_iload_n (pc' := 7) d_Ro_hang_6 rfl 2 rfl ?_
  refine J_putI (pc' := 10) d_Ro_hang_7 rfl (sh_Ro iv0) fp_Ro_13 rfl ?_
  refine J_aload_n (pc' := 11) d_Ro_hang_10 rfl 0 rfl ?_
  refine J_iconst (pc' := 12) (v := 0) d_Ro_hang_11 rfl ic_0 ?_
  refine J_aload_n (pc' := 13) d_Ro_hang_12 rfl 0 rfl ?_
  refine J_getI (pc' := 16) d_Ro_hang_13 rfl (sh_Ro iv0) fl_Ro_13 rfl ?_
  refine J_aload_n (pc' := 17) d_Ro_hang_16 rfl 0 rfl ?_
  refine J_getI (pc' := 20) d_Ro_hang_17 rfl (sh_Ro iv0) fl_Ro_7 rfl ?_
  refine J_isub (pc' := 21) d_Ro_hang_20 rfl ?_
  refine J_S (pc' := 24) (as := [.int 0, .int (((pI (pI σ v0 0 v1) v0 1 v2).1 v0 1) - ((pI (pI σ v0 0 v1) v0 1 v2).1 v0 0))]) (rest := [rf V v0]) (st' := [.int (f_JM_max 0 (((pI (pI σ v0 0 v1) v0 1 v2).1 v0 1) - ((pI (pI σ v0 0 v1) v0 1 v2).1 v0 0))), rf V v0]) d_Ro_hang_21 rfl ms_Ro_35 (ct_JM_max V _ (pI (pI σ v0 0 v1) v0 1 v2) 0 (((pI (pI σ v0 0 v1) v0 1 v2).1 v0 1) - ((pI (pI σ v0 0 v1) v0 1 v2).1 v0 0))) rfl rfl ⟨Nat.le_of_ble_eq_true rfl, Nat.le_of_ble_eq_true rfl⟩ ⟨rfl, rfl⟩ (Nat.le_of_ble_eq_true rfl) rfl ?_
  refine J_putI (pc' := 27) d_Ro_hang_24 rfl (sh_Ro iv0) fp_Ro_41 rfl ?_
  refine J_aload_n (pc' := 28) d_Ro_hang_27 rfl 0 rfl ?_
  refine J_iconst (pc' := 29) (v := 0) d_Ro_hang_28 rfl ic_0 ?_
  refine J_aload_n (pc' := 30) d_Ro_hang_29 rfl 0 rfl ?_
  refine J_getI (pc' := 33) d_Ro_hang_30 rfl (sh_Ro iv0) fl_Ro_7 rfl ?_
  refine J_aload_n (pc' := 34) d_Ro_hang_33 rfl 0 rfl ?_
  refine J_getI (pc' := 37) d_Ro_hang_34 rfl (sh_Ro iv0) fl_Ro_13 rfl ?_
  refine J_isub (pc' := 38) d_Ro_hang_37 rfl ?_
  refine J_S (pc' := 41) (as := [.int 0, .int (((pI (pI (pI σ v0 0 v1) v0 1 v2) v0 7 (f_JM_max 0 (((pI (pI σ v0 0 v1) v0 1 v2).1 v0 1) - ((pI (pI σ v0 0 v1) v0 1 v2).1 v0 0)))).1 v0 0) - ((pI (pI (pI σ v0 0 v1) v0 1 v2) v0 7 (f_JM_max 0 (((pI (pI σ v0 0 v1) v0 1 v2).1 v0 1) - ((pI (pI σ v0 0 v1) v0 1 v2).1 v0 0)))).1 v0 1))]) (rest := [rf V v0]) (st' := [.int (f_JM_max 0 (((pI (pI (pI σ v0 0 v1) v0 1 v2) v0 7 (f_JM_max 0 (((pI (pI σ v0 0 v1) v0 1 v2).1 v0 1) - ((pI (pI σ v0 0 v1) v0 1 v2).1 v0 0)))).1 v0 0) - ((pI (pI (pI σ v0 0 v1) v0 1 v2) v0 7 (f_JM_max 0 (((pI (pI σ v0 0 v1) v0 1 v2).1 v0 1) - ((pI (pI σ v0 0 v1) v0 1 v2).1 v0 0)))).1 v0 1))), rf V v0]) d_Ro_hang_38 rfl ms_Ro_35 (ct_JM_max V _ (pI (pI (pI σ v0 0 v1) v0 1 v2) v0 7 (f_JM_max 0 (((pI (pI σ v0 0 v1) v0 1 v2).1 v0 1) - ((pI (pI σ v0 0 v1) v0 1 v2).1 v0 0)))) 0 (((pI (pI (pI σ v0 0 v1) v0 1 v2) v0 7 (f_JM_max 0 (((pI (pI σ v0 0 v1) v0 1 v2).1 v0 1) - ((pI (pI σ v0 0 v1) v0 1 v2).1 v0 0)))).1 v0 0) - ((pI (pI (pI σ v0 0 v1) v0 1 v2) v0 7 (f_JM_max 0 (((pI (pI σ v0 0 v1) v0 1 v2).1 v0 1) - ((pI (pI σ v0 0 v1) v0 1 v2).1 v0 0)))).1 v0 1))) rfl rfl ⟨Nat.le_of_ble_eq_true rfl, Nat.le_of_ble_eq_true rfl⟩ ⟨rfl, rfl⟩ (Nat.le_of_ble_eq_true rfl) rfl ?_
  refine J_putI (pc' := 44) d_Ro_hang_41 rfl (sh_Ro iv0) fp_Ro_44 rfl ?_
  obtain rfl := Option.some.inj hf
  exact J_vret d_Ro_hang_44
theorem ct_Ro_hang (V : Vx) (l : Launch) (σ : Sg) (v0 : Nat) (v1 : Int32) (v2 : Int32) (iv0 : is_Ro v0) {σ' : Sg} (hf : f_Ro_hang σ v0 v1 v2 = some σ') : Ct V l y_Ro_hang c_Ro_hang 3 none (k2_rm 1 21) [rf V v0, .int v1, .int v2] σ none σ' := Ct.ofJ (by decide +kernel) (Nat.le_of_ble_eq_true rfl) fun X _ => j_Ro_hang _ v0 v1 v2 iv0 hf
def f_Ro_learn (σ : Sg) (v0 : Nat) (v1 : Int32) (v2 : Int32) : Option Sg :=
  if v1 = 0 then
    (f_Ro_hang σ v0 v2 (σ.1 v0 1)).bind fun σ3 =>
      some σ3
  else
  if v1 = 1 then
    (f_Ro_hang σ v0 (σ.1 v0 0) v2).bind fun σ6 =>
      some σ6
  else
  if v1 = 2 then some (pI σ v0 2 v2) else
  if v1 = 3 then some (pI σ v0 3 v2) else
  if v1 = 4 then some (pI σ v0 4 v2) else
  if v1 = 5 then some (pI σ v0 5 v2) else
    some σ
set_option maxHeartbeats 4000000 in
theorem j_Ro_learn {V : Vx} {X : Xx} {σ' : Sg} (σ : Sg) (v0 : Nat) (v1 : Int32) (v2 : Int32) (iv0 : is_Ro v0) (hf : f_Ro_learn σ v0 v1 v2 = some σ') : J V X (k2_rm 2 43) c_Ro_learn R_Ro 3 none (Qr V X none σ') σ 0 [(0, rf V v0), (1, .int v1), (2, .int v2)] [] := by
  unfold f_Ro_learn at hf
  refine J_iload_n (pc' := 1) d_Ro_learn_0 rfl 1 rfl ?_
  by_cases hc1 : v1 = 0
  · have hf := brT hc1 hf
    refine J_tsIn (tgt := 40) (off := 39) 0 d_Ro_learn_1 (by rw [hc1]; decide) (by decide) (by decide) rfl (by decide) ?_
    refine J_aload_n (pc' := 41) d_Ro_learn_40 rfl 0 rfl ?_
    refine J_iload_n (pc' := 42) d_Ro_learn_41 rfl 2 rfl ?_
    refine J_aload_n (pc' := 43) d_Ro_learn_42 rfl 0 rfl ?_
    refine J_getI (pc' := 46) d_Ro_learn_43 rfl (sh_Ro iv0) fl_Ro_13 rfl ?_
    obtain ⟨σ3, hq2, hf⟩ := bpE hf
    refine J_V (pc' := 49) (as := [.int v2, .int (σ.1 v0 1)]) (rest := []) (st' := []) d_Ro_learn_46 rfl (sh_Ro iv0) rfl mv_Ro_31 (ct_Ro_hang V _ σ v0 v2 (σ.1 v0 1) iv0 hq2) rfl rfl ⟨Nat.le_of_ble_eq_true rfl, Nat.le_of_ble_eq_true rfl⟩ ⟨rfl, rfl⟩ (Nat.le_of_ble_eq_true rfl) rfl ?_
    refine J_goto (tgt := 96) d_Ro_learn_49 (by decide) ?_
    obtain rfl := Option.some.inj hf
    exact J_vret d_Ro_learn_96
  · have hf := brF hc1 hf
    by_cases hc4 : v1 = 1
    · have hf := brT hc4 hf
      refine J_tsIn (tgt := 52) (off := 51) 1 d_Ro_learn_1 (by rw [hc4]; decide) (by decide) (by decide) rfl (by decide) ?_
      refine J_aload_n (pc' := 53) d_Ro_learn_52 rfl 0 rfl ?_
      refine J_aload_n (pc' := 54) d_Ro_learn_53 rfl 0 rfl ?_
      refine J_getI (pc' := 57) d_Ro_learn_54 rfl (sh_Ro iv0) fl_Ro_7 rfl ?_
      refine J_iload_n (pc' := 58) d_Ro_learn_57 rfl 2 rfl ?_
      obtain ⟨σ6, hq5, hf⟩ := bpE hf
      refine J_V (pc' := 61) (as := [.int (σ.1 v0 0), .int v2]) (rest := []) (st' := []) d_Ro_learn_58 rfl (sh_Ro iv0) rfl mv_Ro_31 (ct_Ro_hang V _ σ v0 (σ.1 v0 0) v2 iv0 hq5) rfl rfl ⟨Nat.le_of_ble_eq_true rfl, Nat.le_of_ble_eq_true rfl⟩ ⟨rfl, rfl⟩ (Nat.le_of_ble_eq_true rfl) rfl ?_
      refine J_goto (tgt := 96) d_Ro_learn_61 (by decide) ?_
      obtain rfl := Option.some.inj hf
      exact J_vret d_Ro_learn_96
    · have hf := brF hc4 hf
      by_cases hc7 : v1 = 2
      · have hf := brT hc7 hf
        refine J_tsIn (tgt := 64) (off := 63) 2 d_Ro_learn_1 (by rw [hc7]; decide) (by decide) (by decide) rfl (by decide) ?_
        refine J_aload_n (pc' := 65) d_Ro_learn_64 rfl 0 rfl ?_
        refine J_iload_n (pc' := 66) d_Ro_learn_65 rfl 2 rfl ?_
        refine J_putI (pc' := 69) d_Ro_learn_66 rfl (sh_Ro iv0) fp_Ro_16 rfl ?_
        refine J_goto (tgt := 96) d_Ro_learn_69 (by decide) ?_
        obtain rfl := Option.some.inj hf
        exact J_vret d_Ro_learn_96
      · have hf := brF hc7 hf
        by_cases hc8 : v1 = 3
        · have hf := brT hc8 hf
          refine J_tsIn (tgt := 72) (off := 71) 3 d_Ro_learn_1 (by rw [hc8]; decide) (by decide) (by decide) rfl (by decide) ?_
          refine J_aload_n (pc' := 73) d_Ro_learn_72 rfl 0 rfl ?_
          refine J_iload_n (pc' := 74) d_Ro_learn_73 rfl 2 rfl ?_
          refine J_putI (pc' := 77) d_Ro_learn_74 rfl (sh_Ro iv0) fp_Ro_19 rfl ?_
          refine J_goto (tgt := 96) d_Ro_learn_77 (by decide) ?_
          obtain rfl := Option.some.inj hf
          exact J_vret d_Ro_learn_96
        · have hf := brF hc8 hf
          by_cases hc9 : v1 = 4
          · have hf := brT hc9 hf
            refine J_tsIn (tgt := 80) (off := 79) 4 d_Ro_learn_1 (by rw [hc9]; decide) (by decide) (by decide) rfl (by decide) ?_
            refine J_aload_n (pc' := 81) d_Ro_learn_80 rfl 0 rfl ?_
            refine J_iload_n (pc' := 82) d_Ro_learn_81 rfl 2 rfl ?_
            refine J_putI (pc' := 85) d_Ro_learn_82 rfl (sh_Ro iv0) fp_Ro_22 rfl ?_
            refine J_goto (tgt := 96) d_Ro_learn_85 (by decide) ?_
            obtain rfl := Option.some.inj hf
            exact J_vret d_Ro_learn_96
          · have hf := brF hc9 hf
            by_cases hc10 : v1 = 5
            · have hf := brT hc10 hf
              refine J_tsIn (tgt := 88) (off := 87) 5 d_Ro_learn_1 (by rw [hc10]; decide) (by decide) (by decide) rfl (by decide) ?_
              refine J_aload_n (pc' := 89) d_Ro_learn_88 rfl 0 rfl ?_
              refine J_iload_n (pc' := 90) d_Ro_learn_89 rfl 2 rfl ?_
              refine J_putI (pc' := 93) d_Ro_learn_90 rfl (sh_Ro iv0) fp_Ro_25 rfl ?_
              refine J_goto (tgt := 96) d_Ro_learn_93 (by decide) ?_
              obtain rfl := Option.some.inj hf
              exact J_vret d_Ro_learn_96
            · have hf := brF hc10 hf
              have ehc1 := neI (z := 0) hc1 (by decide)
              have ehc4 := neI (z := 1) hc4 (by decide)
              have ehc7 := neI (z := 2) hc7 (by decide)
              have ehc8 := neI (z := 3) hc8 (by decide)
              have ehc9 := neI (z := 4) hc9 (by decide)
              have ehc10 := neI (z := 5) hc10 (by decide)
              refine J_tsOut (tgt := 96) d_Ro_learn_1 (by omega) (by decide) ?_
              obtain rfl := Option.some.inj hf
              exact J_vret d_Ro_learn_96
theorem ct_Ro_learn (V : Vx) (l : Launch) (σ : Sg) (v0 : Nat) (v1 : Int32) (v2 : Int32) (iv0 : is_Ro v0) {σ' : Sg} (hf : f_Ro_learn σ v0 v1 v2 = some σ') : Ct V l y_Ro_learn c_Ro_learn 3 none (k2_rm 2 43) [rf V v0, .int v1, .int v2] σ none σ' := Ct.ofJ (by decide +kernel) (Nat.le_of_ble_eq_true rfl) fun X _ => j_Ro_learn _ v0 v1 v2 iv0 hf
def f_Rs_learnRopes_92 (σ : Sg) (v1 : Nat) (s0 : Int32) : Option (Int32 × Sg) :=
  if s0 = 0 then some (σ.1 v1 2, σ) else some ((-1), σ)
set_option maxHeartbeats 4000000 in
theorem j_Rs_learnRopes_92 {V : Vx} {X : Xx} {r : Int32} {σ' : Sg}  (σ : Sg) (v1 : Nat) (s0 : Int32) (iv1 : is_Te v1) (hf : f_Rs_learnRopes_92 σ v1 s0 = some (r, σ')) : J V X (k2_rm 3 65) c_Rs_learnRopes R_Rs 5 (some .int) (Qr V X (some (.int r)) σ') σ 92 [(1, rf V v1)] [.int s0] := by
  unfold f_Rs_learnRopes_92 at hf
  refine J_istore_n (pc' := 93) (lv' := [(2, .int s0), (1, rf V v1)]) d_Rs_learnRopes_92 rfl rfl (by decide) rfl ?_
  refine J_iload_n (pc' := 94) d_Rs_learnRopes_93 rfl 0 rfl ?_
  refine J_if_eq (pc' := 97) (tgt := 101) d_Rs_learnRopes_94 rfl (by decide) (fun hc3 => ?_) (fun hc3 => ?_)
  · have hf := brT hc3 hf
    refine J_aload_n (pc' := 102) d_Rs_learnRopes_101 rfl 1 rfl ?_
    refine J_getI (pc' := 105) d_Rs_learnRopes_102 rfl (sh_Te iv1) fl_Rs_60 rfl ?_
    obtain ⟨rfl, rfl⟩ := resE hf
    exact J_iret d_Rs_learnRopes_105
  · have hf := brF hc3 hf
    refine J_iconst (pc' := 98) (v := (-1)) d_Rs_learnRopes_97 rfl ic_m1 ?_
    refine J_goto (tgt := 105) d_Rs_learnRopes_98 (by decide) ?_
    obtain ⟨rfl, rfl⟩ := resE hf
    exact J_iret d_Rs_learnRopes_105
def f_Rs_learnRopes_87 (σ : Sg) (v1 : Nat) : Option (Int32 × Sg) :=
  f_Rs_learnRopes_92 σ v1 1
set_option maxHeartbeats 4000000 in
theorem j_Rs_learnRopes_87 {V : Vx} {X : Xx} {r : Int32} {σ' : Sg}  (σ : Sg) (v1 : Nat) (iv1 : is_Te v1) (hf : f_Rs_learnRopes_87 σ v1 = some (r, σ')) : J V X (k2_rm 3 65) c_Rs_learnRopes R_Rs 5 (some .int) (Qr V X (some (.int r)) σ') σ 87 [(1, rf V v1)] [] := by
  unfold f_Rs_learnRopes_87 at hf
  refine J_iconst (pc' := 88) (v := 1) d_Rs_learnRopes_87 rfl ic_1 ?_
  refine J_goto (tgt := 92) d_Rs_learnRopes_88 (by decide) ?_
  exact j_Rs_learnRopes_92 _ _ _ iv1 hf
def f_Rs_learnRopes_2 : Nat → Sg → Nat → Int32 → Option (Int32 × Sg)
  | 0, _, _, _ => none
  | n + 1, σ, v1, v2 =>
    if (σ.1 v1 2) ≤ v2 then
      if (σ.1 v1 2) = 0 then
        f_Rs_learnRopes_87 σ v1
      else
        if ((σ.1 v1 2) - (σ.1 v1 2) / 7 * 7) = 6 then f_Rs_learnRopes_87 σ v1 else f_Rs_learnRopes_92 σ v1 0
    else
      (f_Te_at σ v1 v2).bind fun r6 =>
        (f_Te_figureAt σ v1 v2).bind fun r8 =>
          if 8 ≤ (v2 / 7) then
            some (v2, σ)
          else
            if (f_Rs_valueOf (v2 - v2 / 7 * 7) r6 r8) = (-1) then
              some (v2, σ)
            else
              (f_Ro_learn σ (f_Rs_at (v2 / 7)) (v2 - v2 / 7 * 7) (f_Rs_valueOf (v2 - v2 / 7 * 7) r6 r8)).bind fun σ12 =>
                f_Rs_learnRopes_2 n σ12 v1 (v2 + 1)
theorem f_Rs_learnRopes_2_s (n : Nat) (σ : Sg) (v1 : Nat) (v2 : Int32) : f_Rs_learnRopes_2 (n + 1) σ v1 v2 =
    if (σ.1 v1 2) ≤ v2 then
      if (σ.1 v1 2) = 0 then
        f_Rs_learnRopes_87 σ v1
      else
        if ((σ.1 v1 2) - (σ.1 v1 2) / 7 * 7) = 6 then f_Rs_learnRopes_87 σ v1 else f_Rs_learnRopes_92 σ v1 0
    else
      (f_Te_at σ v1 v2).bind fun r6 =>
        (f_Te_figureAt σ v1 v2).bind fun r8 =>
          if 8 ≤ (v2 / 7) then
            some (v2, σ)
          else
            if (f_Rs_valueOf (v2 - v2 / 7 * 7) r6 r8) = (-1) then
              some (v2, σ)
            else
              (f_Ro_learn σ (f_Rs_at (v2 / 7)) (v2 - v2 / 7 * 7) (f_Rs_valueOf (v2 - v2 / 7 * 7) r6 r8)).bind fun σ12 =>
                f_Rs_learnRopes_2 n σ12 v1 (v2 + 1) := rfl
set_option maxHeartbeats 4000000 in
theorem j_Rs_learnRopes_2 {V : Vx} {X : Xx} {r : Int32} {σ' : Sg}  : ∀ (n : Nat) (σ : Sg) (v1 : Nat) (v2 : Int32) (iv1 : is_Te v1), f_Rs_learnRopes_2 n σ v1 v2 = some (r, σ') → J V X (k2_rm 3 65) c_Rs_learnRopes R_Rs 5 (some .int) (Qr V X (some (.int r)) σ') σ 2 [(0, rf V 5), (1, rf V v1), (2, .int v2)] [] := by
  intro n
  induction n with
  | zero => intro σ v1 v2 iv1 hf; exact nn hf
  | succ n ih =>
    intro σ v1 v2 iv1 hf
    rw [f_Rs_learnRopes_2_s] at hf
    refine J_iload_n (pc' := 3) d_Rs_learnRopes_2 rfl 2 rfl ?_
    refine J_aload_n (pc' := 4) d_Rs_learnRopes_3 rfl 1 rfl ?_
    refine J_getI (pc' := 7) d_Rs_learnRopes_4 rfl (sh_Te iv1) fl_Rs_60 rfl ?_
    refine J_icmp_ge (pc' := 10) (tgt := 68) d_Rs_learnRopes_7 rfl (by decide) (fun hc1 => ?_) (fun hc1 => ?_)
    · have hf := brT hc1 hf
      refine J_aload_n (pc' := 69) d_Rs_learnRopes_68 rfl 1 rfl ?_
      refine J_getI (pc' := 72) d_Rs_learnRopes_69 rfl (sh_Te iv1) fl_Rs_60 rfl ?_
      refine J_if_eq (pc' := 75) (tgt := 87) d_Rs_learnRopes_72 rfl (by decide) (fun hc2 => ?_) (fun hc2 => ?_)
      · have hf := brT hc2 hf
        refine J_pick [1] rfl ?_
        exact j_Rs_learnRopes_87 _ _ iv1 hf
      · have hf := brF hc2 hf
        refine J_aload_n (pc' := 76) d_Rs_learnRopes_75 rfl 1 rfl ?_
        refine J_getI (pc' := 79) d_Rs_learnRopes_76 rfl (sh_Te iv1) fl_Rs_60 rfl ?_
        refine J_bipush (pc' := 81) (v := 7) d_Rs_learnRopes_79 rfl bc_7 ?_
        refine J_irem (pc' := 82) d_Rs_learnRopes_81 rfl (by decide) ?_
        refine J_bipush (pc' := 84) (v := 6) d_Rs_learnRopes_82 rfl bc_6 ?_
        refine J_icmp_ne (pc' := 87) (tgt := 91) d_Rs_learnRopes_84 rfl (by decide) (fun hc4 => ?_) (fun hc4 => ?_)
        · have hf := brF hc4 hf
          refine J_iconst (pc' := 92) (v := 0) d_Rs_learnRopes_91 rfl ic_0 ?_
          refine J_pick [1] rfl ?_
          exact j_Rs_learnRopes_92 _ _ _ iv1 hf
        · have hf := brT hc4 hf
          refine J_pick [1] rfl ?_
          exact j_Rs_learnRopes_87 _ _ iv1 hf
    · have hf := brF hc1 hf
      refine J_iload_n (pc' := 11) d_Rs_learnRopes_10 rfl 2 rfl ?_
      refine J_bipush (pc' := 13) (v := 7) d_Rs_learnRopes_11 rfl bc_7 ?_
      refine J_idiv (pc' := 14) d_Rs_learnRopes_13 rfl (by decide) ?_
      refine J_istore_n (pc' := 15) (lv' := [(3, .int (v2 / 7)), (0, rf V 5), (1, rf V v1), (2, .int v2)]) d_Rs_learnRopes_14 rfl rfl (by decide) rfl ?_
      refine J_iload_n (pc' := 16) d_Rs_learnRopes_15 rfl 3 rfl ?_
      refine J_bipush (pc' := 18) (v := 7) d_Rs_learnRopes_16 rfl bc_7 ?_
      refine J_irem (pc' := 19) d_Rs_learnRopes_18 rfl (by decide) ?_
      refine J_aload_n (pc' := 20) d_Rs_learnRopes_19 rfl 2 rfl ?_
      refine J_iload_n (pc' := 21) d_Rs_learnRopes_20 rfl 3 rfl ?_
      obtain ⟨r6, hq5, hf⟩ := bpE hf
      refine J_V (pc' := 24) (as := [.int v2]) (rest := [.int (v2 - v2 / 7 * 7)]) (st' := [.int r6, .int (v2 - v2 / 7 * 7)]) d_Rs_learnRopes_21 rfl (sh_Te iv1) rfl mv_Rs_72 (ct_Te_at V _ σ v1 v2 iv1 hq5) rfl rfl ⟨Nat.le_of_ble_eq_true rfl, Nat.le_of_ble_eq_true rfl⟩ ⟨rfl, rfl⟩ (Nat.le_of_ble_eq_true rfl) rfl ?_
      refine J_aload_n (pc' := 25) d_Rs_learnRopes_24 rfl 2 rfl ?_
      refine J_iload_n (pc' := 26) d_Rs_learnRopes_25 rfl 3 rfl ?_
      obtain ⟨r8, hq7, hf⟩ := bpE hf
      refine J_V (pc' := 29) (as := [.int v2]) (rest := [.int r6, .int (v2 - v2 / 7 * 7)]) (st' := [.int r8, .int r6, .int (v2 - v2 / 7 * 7)]) d_Rs_learnRopes_26 rfl (sh_Te iv1) rfl mv_Rs_75 (ct_Te_figureAt V _ σ v1 v2 iv1 hq7) rfl rfl ⟨Nat.le_of_ble_eq_true rfl, Nat.le_of_ble_eq_true rfl⟩ ⟨rfl, rfl⟩ (Nat.le_of_ble_eq_true rfl) rfl ?_
      refine J_S (pc' := 32) (as := [.int (v2 - v2 / 7 * 7), .int r6, .int r8]) (rest := []) (st' := [.int (f_Rs_valueOf (v2 - v2 / 7 * 7) r6 r8)]) d_Rs_learnRopes_29 rfl ms_Rs_78 (ct_Rs_valueOf V _ σ (v2 - v2 / 7 * 7) r6 r8) rfl rfl ⟨Nat.le_of_ble_eq_true rfl, Nat.le_of_ble_eq_true rfl⟩ ⟨rfl, rfl⟩ (Nat.le_of_ble_eq_true rfl) rfl ?_
      refine J_istore (pc' := 34) (lv' := [(4, .int (f_Rs_valueOf (v2 - v2 / 7 * 7) r6 r8)), (3, .int (v2 / 7)), (0, rf V 5), (1, rf V v1), (2, .int v2)]) d_Rs_learnRopes_32 rfl (by decide) rfl ?_
      refine J_iload_n (pc' := 35) d_Rs_learnRopes_34 rfl 1 rfl ?_
      refine J_bipush (pc' := 37) (v := 8) d_Rs_learnRopes_35 rfl bc_8 ?_
      refine J_icmp_ge (pc' := 40) (tgt := 46) d_Rs_learnRopes_37 rfl (by decide) (fun hc9 => ?_) (fun hc9 => ?_)
      · have hf := brT hc9 hf
        refine J_iload_n (pc' := 47) d_Rs_learnRopes_46 rfl 4 rfl ?_
        obtain ⟨rfl, rfl⟩ := resE hf
        exact J_iret d_Rs_learnRopes_47
      · have hf := brF hc9 hf
        refine J_iload (pc' := 42) d_Rs_learnRopes_40 rfl 0 rfl ?_
        refine J_iconst (pc' := 43) (v := (-1)) d_Rs_learnRopes_42 rfl ic_m1 ?_
        refine J_icmp_ne (pc' := 46) (tgt := 48) d_Rs_learnRopes_43 rfl (by decide) (fun hc10 => ?_) (fun hc10 => ?_)
        · have hf := brF hc10 hf
          refine J_aload_n (pc' := 49) d_Rs_learnRopes_48 rfl 2 rfl ?_
          refine J_iload_n (pc' := 50) d_Rs_learnRopes_49 rfl 1 rfl ?_
          refine J_V (pc' := 53) (as := [.int (v2 / 7)]) (rest := []) (st' := [rf V (f_Rs_at (v2 / 7))]) d_Rs_learnRopes_50 rfl sh_5 rfl mv_Rs_44 (ct_Rs_at V _ σ (v2 / 7)) rfl rfl ⟨Nat.le_of_ble_eq_true rfl, Nat.le_of_ble_eq_true rfl⟩ ⟨rfl, rfl⟩ (Nat.le_of_ble_eq_true rfl) rfl ?_
          refine J_iload_n (pc' := 54) d_Rs_learnRopes_53 rfl 4 rfl ?_
          refine J_bipush (pc' := 56) (v := 7) d_Rs_learnRopes_54 rfl bc_7 ?_
          refine J_irem (pc' := 57) d_Rs_learnRopes_56 rfl (by decide) ?_
          refine J_iload (pc' := 59) d_Rs_learnRopes_57 rfl 0 rfl ?_
          obtain ⟨σ12, hq11, hf⟩ := bpE hf
          refine J_V (pc' := 62) (as := [.int (v2 - v2 / 7 * 7), .int (f_Rs_valueOf (v2 - v2 / 7 * 7) r6 r8)]) (rest := []) (st' := []) d_Rs_learnRopes_59 rfl (sh_Ro (is_Rs_at (v2 / 7))) rfl mv_Rs_82 (ct_Ro_learn V _ σ (f_Rs_at (v2 / 7)) (v2 - v2 / 7 * 7) (f_Rs_valueOf (v2 - v2 / 7 * 7) r6 r8) (is_Rs_at (v2 / 7)) hq11) rfl rfl ⟨Nat.le_of_ble_eq_true rfl, Nat.le_of_ble_eq_true rfl⟩ ⟨rfl, rfl⟩ (Nat.le_of_ble_eq_true rfl) rfl ?_
          refine J_iinc (pc' := 65) (j := 4) (v := 1) (lv' := [(2, .int (v2 + 1)), (4, .int (f_Rs_valueOf (v2 - v2 / 7 * 7) r6 r8)), (3, .int (v2 / 7)), (0, rf V 5), (1, rf V v1)]) d_Rs_learnRopes_62 rfl rfl ic_1 (by decide) rfl ?_
          refine J_goto (tgt := 2) d_Rs_learnRopes_65 (by decide) ?_
          refine J_pick [3, 4, 0] rfl ?_
          exact ih _ _ _ iv1 hf
        · have hf := brT hc10 hf
          refine J_iload_n (pc' := 47) d_Rs_learnRopes_46 rfl 4 rfl ?_
          obtain ⟨rfl, rfl⟩ := resE hf
          exact J_iret d_Rs_learnRopes_47
def f_Rs_learnRopes (σ : Sg) (v1 : Nat) : Option (Int32 × Sg) :=
  f_Rs_learnRopes_2 FU σ v1 0
set_option maxHeartbeats 4000000 in
theorem j_Rs_learnRopes {V : Vx} {X : Xx} {r : Int32} {σ' : Sg} (σ : Sg) (v1 : Nat) (iv1 : is_Te v1) (hf : f_Rs_learnRopes σ v1 = some (r, σ')) : J V X (k2_rm 3 65) c_Rs_learnRopes R_Rs 5 (some .int) (Qr V X (some (.int r)) σ') σ 0 [(0, rf V 5), (1, rf V v1)] [] := by
  unfold f_Rs_learnRopes at hf
  refine J_iconst (pc' := 1) (v := 0) d_Rs_learnRopes_0 rfl ic_0 ?_
  refine J_istore_n (pc' := 2) (lv' := [(2, .int 0), (0, rf V 5), (1, rf V v1)]) d_Rs_learnRopes_1 rfl rfl (by decide) rfl ?_
  refine J_pick [1, 2, 0] rfl ?_
  exact j_Rs_learnRopes_2 FU _ _ _ iv1 hf
theorem ct_Rs_learnRopes (V : Vx) (l : Launch) (σ : Sg) (v1 : Nat) (iv1 : is_Te v1) {r : Int32} {σ' : Sg} (hf : f_Rs_learnRopes σ v1 = some (r, σ')) : Ct V l y_Rs_learnRopes c_Rs_learnRopes 5 (some .int) (k2_rm 3 65) [rf V 5, rf V v1] σ (some (.int r)) σ' := Ct.ofJ (by decide +kernel) (Nat.le_of_ble_eq_true rfl) fun X _ => j_Rs_learnRopes _ v1 iv1 hf
def f_Rs_has (σ : Sg) (v1 : Int32) : Int32 :=
  zb (f_GR_isBelow v1 (σ.1 5 3))
set_option maxHeartbeats 4000000 in
theorem j_Rs_has {V : Vx} {X : Xx} {r : Int32} (σ : Sg) (v1 : Int32) (hf : f_Rs_has σ v1 = r) : J V X (k2_rm 1 21) c_Rs_has R_Rs 2 (some .boolean) (Qr V X (some (.int r)) σ) σ 0 [(0, rf V 5), (1, .int v1)] [] := by
  unfold f_Rs_has at hf
  refine J_iload_n (pc' := 1) d_Rs_has_0 rfl 1 rfl ?_
  refine J_aload_n (pc' := 2) d_Rs_has_1 rfl 0 rfl ?_
  refine J_getI (pc' := 5) d_Rs_has_2 rfl sh_5 fl_Rs_33 rfl ?_
  refine J_S (pc' := 8) (as := [.int v1, .int (σ.1 5 3)]) (rest := []) (st' := [.int (f_GR_isBelow v1 (σ.1 5 3))]) d_Rs_has_5 rfl ms_Rs_36 (ct_GR_isBelow V _ σ v1 (σ.1 5 3)) rfl rfl ⟨Nat.le_of_ble_eq_true rfl, Nat.le_of_ble_eq_true rfl⟩ ⟨rfl, rfl⟩ (Nat.le_of_ble_eq_true rfl) rfl ?_
  subst hf
  exact J_zretG d_Rs_has_8
theorem ct_Rs_has (V : Vx) (l : Launch) (σ : Sg) (v1 : Int32) : Ct V l y_Rs_has c_Rs_has 2 (some .boolean) (k2_rm 1 21) [rf V 5, .int v1] σ (some (.int (f_Rs_has σ v1))) σ := Ct.ofJ (by decide +kernel) (Nat.le_of_ble_eq_true rfl) fun X _ => j_Rs_has _ v1 rfl
def f_Rs_faultOfRight_4 : Nat → Sg → Nat → Int32 → Int32 → Option Int32
  | 0, _, _, _, _ => none
  | n + 1, σ, v1, v2, v3 =>
    if (σ.1 v1 2) ≤ v3 then
      some (-1)
    else
      (f_Te_figureAt σ v1 v3).bind fun r3 =>
        if (f_Rs_has σ r3) = 0 then
          some v3
        else
          if (v2 &&& (1 <<< (r3 &&& 31))) = 0 then f_Rs_faultOfRight_4 n σ v1 (v2 ||| (1 <<< (r3 &&& 31))) (v3 + 1) else some v3
theorem f_Rs_faultOfRight_4_s (n : Nat) (σ : Sg) (v1 : Nat) (v2 : Int32) (v3 : Int32) : f_Rs_faultOfRight_4 (n + 1) σ v1 v2 v3 =
    if (σ.1 v1 2) ≤ v3 then
      some (-1)
    else
      (f_Te_figureAt σ v1 v3).bind fun r3 =>
        if (f_Rs_has σ r3) = 0 then
          some v3
        else
          if (v2 &&& (1 <<< (r3 &&& 31))) = 0 then f_Rs_faultOfRight_4 n σ v1 (v2 ||| (1 <<< (r3 &&& 31))) (v3 + 1) else some v3 := rfl
set_option maxHeartbeats 4000000 in
theorem j_Rs_faultOfRight_4 {V : Vx} {X : Xx} {σ : Sg} {r : Int32}  : ∀ (n : Nat) (v1 : Nat) (v2 : Int32) (v3 : Int32) (iv1 : is_Te v1), f_Rs_faultOfRight_4 n σ v1 v2 v3 = some r → J V X (k2_rm 3 64) c_Rs_faultOfRight R_Rs 5 (some .int) (Qr V X (some (.int r)) σ) σ 4 [(0, rf V 5), (1, rf V v1), (2, .int v2), (3, .int v3)] [] := by
  intro n
  induction n with
  | zero => intro v1 v2 v3 iv1 hf; exact nn hf
  | succ n ih =>
    intro v1 v2 v3 iv1 hf
    rw [f_Rs_faultOfRight_4_s] at hf
    refine J_iload_n (pc' := 5) d_Rs_faultOfRight_4 rfl 3 rfl ?_
    refine J_aload_n (pc' := 6) d_Rs_faultOfRight_5 rfl 1 rfl ?_
    refine J_getI (pc' := 9) d_Rs_faultOfRight_6 rfl (sh_Te iv1) fl_Rs_60 rfl ?_
    refine J_icmp_ge (pc' := 12) (tgt := 52) d_Rs_faultOfRight_9 rfl (by decide) (fun hc1 => ?_) (fun hc1 => ?_)
    · have hf := brT hc1 hf
      refine J_iconst (pc' := 53) (v := (-1)) d_Rs_faultOfRight_52 rfl ic_m1 ?_
      obtain rfl := Option.some.inj hf
      exact J_iret d_Rs_faultOfRight_53
    · have hf := brF hc1 hf
      refine J_aload_n (pc' := 13) d_Rs_faultOfRight_12 rfl 1 rfl ?_
      refine J_iload_n (pc' := 14) d_Rs_faultOfRight_13 rfl 3 rfl ?_
      obtain ⟨r3, hq2, hf⟩ := bpE hf
      refine J_V (pc' := 17) (as := [.int v3]) (rest := []) (st' := [.int r3]) d_Rs_faultOfRight_14 rfl (sh_Te iv1) rfl mv_Rs_75 (ct_Te_figureAt V _ σ v1 v3 iv1 hq2) rfl rfl ⟨Nat.le_of_ble_eq_true rfl, Nat.le_of_ble_eq_true rfl⟩ ⟨rfl, rfl⟩ (Nat.le_of_ble_eq_true rfl) rfl ?_
      refine J_istore (pc' := 19) (lv' := [(4, .int r3), (0, rf V 5), (1, rf V v1), (2, .int v2), (3, .int v3)]) d_Rs_faultOfRight_17 rfl (by decide) rfl ?_
      refine J_aload_n (pc' := 20) d_Rs_faultOfRight_19 rfl 1 rfl ?_
      refine J_iload (pc' := 22) d_Rs_faultOfRight_20 rfl 0 rfl ?_
      refine J_V (pc' := 25) (as := [.int r3]) (rest := []) (st' := [.int (f_Rs_has σ r3)]) d_Rs_faultOfRight_22 rfl sh_5 rfl mv_Rs_40 (ct_Rs_has V _ σ r3) rfl rfl ⟨Nat.le_of_ble_eq_true rfl, Nat.le_of_ble_eq_true rfl⟩ ⟨rfl, rfl⟩ (Nat.le_of_ble_eq_true rfl) rfl ?_
      refine J_if_eq (pc' := 28) (tgt := 37) d_Rs_faultOfRight_25 rfl (by decide) (fun hc4 => ?_) (fun hc4 => ?_)
      · have hf := brT hc4 hf
        refine J_iload_n (pc' := 38) d_Rs_faultOfRight_37 rfl 4 rfl ?_
        obtain rfl := Option.some.inj hf
        exact J_iret d_Rs_faultOfRight_38
      · have hf := brF hc4 hf
        refine J_iload_n (pc' := 29) d_Rs_faultOfRight_28 rfl 3 rfl ?_
        refine J_iconst (pc' := 30) (v := 1) d_Rs_faultOfRight_29 rfl ic_1 ?_
        refine J_iload (pc' := 32) d_Rs_faultOfRight_30 rfl 0 rfl ?_
        refine J_ishl (pc' := 33) d_Rs_faultOfRight_32 rfl ?_
        refine J_iand (pc' := 34) d_Rs_faultOfRight_33 rfl ?_
        refine J_if_eq (pc' := 37) (tgt := 39) d_Rs_faultOfRight_34 rfl (by decide) (fun hc5 => ?_) (fun hc5 => ?_)
        · have hf := brT hc5 hf
          refine J_iload_n (pc' := 40) d_Rs_faultOfRight_39 rfl 3 rfl ?_
          refine J_iconst (pc' := 41) (v := 1) d_Rs_faultOfRight_40 rfl ic_1 ?_
          refine J_iload (pc' := 43) d_Rs_faultOfRight_41 rfl 0 rfl ?_
          refine J_ishl (pc' := 44) d_Rs_faultOfRight_43 rfl ?_
          refine J_ior (pc' := 45) d_Rs_faultOfRight_44 rfl ?_
          refine J_istore_n (pc' := 46) (lv' := [(2, .int (v2 ||| (1 <<< (r3 &&& 31)))), (4, .int r3), (0, rf V 5), (1, rf V v1), (3, .int v3)]) d_Rs_faultOfRight_45 rfl rfl (by decide) rfl ?_
          refine J_iinc (pc' := 49) (j := 4) (v := 1) (lv' := [(3, .int (v3 + 1)), (2, .int (v2 ||| (1 <<< (r3 &&& 31)))), (4, .int r3), (0, rf V 5), (1, rf V v1)]) d_Rs_faultOfRight_46 rfl rfl ic_1 (by decide) rfl ?_
          refine J_goto (tgt := 4) d_Rs_faultOfRight_49 (by decide) ?_
          refine J_pick [3, 4, 1, 0] rfl ?_
          exact ih _ _ _ iv1 hf
        · have hf := brF hc5 hf
          refine J_iload_n (pc' := 38) d_Rs_faultOfRight_37 rfl 4 rfl ?_
          obtain rfl := Option.some.inj hf
          exact J_iret d_Rs_faultOfRight_38
def f_Rs_faultOfRight (σ : Sg) (v1 : Nat) : Option Int32 :=
  f_Rs_faultOfRight_4 FU σ v1 0 0
set_option maxHeartbeats 4000000 in
theorem j_Rs_faultOfRight {V : Vx} {X : Xx} {r : Int32} (σ : Sg) (v1 : Nat) (iv1 : is_Te v1) (hf : f_Rs_faultOfRight σ v1 = some r) : J V X (k2_rm 3 64) c_Rs_faultOfRight R_Rs 5 (some .int) (Qr V X (some (.int r)) σ) σ 0 [(0, rf V 5), (1, rf V v1)] [] := by
  unfold f_Rs_faultOfRight at hf
  refine J_iconst (pc' := 1) (v := 0) d_Rs_faultOfRight_0 rfl ic_0 ?_
  refine J_istore_n (pc' := 2) (lv' := [(2, .int 0), (0, rf V 5), (1, rf V v1)]) d_Rs_faultOfRight_1 rfl rfl (by decide) rfl ?_
  refine J_iconst (pc' := 3) (v := 0) d_Rs_faultOfRight_2 rfl ic_0 ?_
  refine J_istore_n (pc' := 4) (lv' := [(3, .int 0), (2, .int 0), (0, rf V 5), (1, rf V v1)]) d_Rs_faultOfRight_3 rfl rfl (by decide) rfl ?_
  refine J_pick [2, 3, 1, 0] rfl ?_
  exact j_Rs_faultOfRight_4 FU _ _ _ iv1 hf
theorem ct_Rs_faultOfRight (V : Vx) (l : Launch) (σ : Sg) (v1 : Nat) (iv1 : is_Te v1) {r : Int32} (hf : f_Rs_faultOfRight σ v1 = some r) : Ct V l y_Rs_faultOfRight c_Rs_faultOfRight 5 (some .int) (k2_rm 3 64) [rf V 5, rf V v1] σ (some (.int r)) σ := Ct.ofJ (by decide +kernel) (Nat.le_of_ble_eq_true rfl) fun X _ => j_Rs_faultOfRight _ v1 iv1 hf
def f_Rs_give (σ : Sg) (v1 : Int32) (v2 : Int32) : Option Sg :=
  if (f_GR_isBelow v2 8) = 0 then some σ else some (pI (pI σ 8 v2.toNatClampNeg v1) (f_Rs_at v1) 6 v2)
set_option maxHeartbeats 4000000 in
theorem j_Rs_give {V : Vx} {X : Xx} {σ' : Sg} (σ : Sg) (v1 : Int32) (v2 : Int32) (hf : f_Rs_give σ v1 v2 = some σ') : J V X (k2_rm 2 43) c_Rs_give R_Rs 3 none (Qr V X none σ') σ 0 [(0, rf V 5), (1, .int v1), (2, .int v2)] [] := by
  unfold f_Rs_give at hf
  refine J_iload_n (pc' := 1) d_Rs_give_0 rfl 2 rfl ?_
  refine J_bipush (pc' := 3) (v := 8) d_Rs_give_1 rfl bc_8 ?_
  refine J_S (pc' := 6) (as := [.int v2, .int 8]) (rest := []) (st' := [.int (f_GR_isBelow v2 8)]) d_Rs_give_3 rfl ms_Rs_36 (ct_GR_isBelow V _ σ v2 8) rfl rfl ⟨Nat.le_of_ble_eq_true rfl, Nat.le_of_ble_eq_true rfl⟩ ⟨rfl, rfl⟩ (Nat.le_of_ble_eq_true rfl) rfl ?_
  refine J_if_eq (pc' := 9) (tgt := 25) d_Rs_give_6 rfl (by decide) (fun hc1 => ?_) (fun hc1 => ?_)
  · have hf := brT hc1 hf
    obtain rfl := Option.some.inj hf
    exact J_vret d_Rs_give_25
  · have hf := brF hc1 hf
    refine J_aload_n (pc' := 10) d_Rs_give_9 rfl 0 rfl ?_
    refine J_getR (pc' := 13) d_Rs_give_10 rfl sh_5 fl_Rs_22 rfl ?_
    refine J_iload_n (pc' := 14) d_Rs_give_13 rfl 2 rfl ?_
    refine J_iload_n (pc' := 15) d_Rs_give_14 rfl 1 rfl ?_
    refine J_ias (pc' := 16) d_Rs_give_15 rfl sh_8 (vin_b hc1) ?_
    refine J_aload_n (pc' := 17) d_Rs_give_16 rfl 0 rfl ?_
    refine J_iload_n (pc' := 18) d_Rs_give_17 rfl 1 rfl ?_
    refine J_V (pc' := 21) (as := [.int v1]) (rest := []) (st' := [rf V (f_Rs_at v1)]) d_Rs_give_18 rfl sh_5 rfl mv_Rs_44 (ct_Rs_at V _ (pI σ 8 v2.toNatClampNeg v1) v1) rfl rfl ⟨Nat.le_of_ble_eq_true rfl, Nat.le_of_ble_eq_true rfl⟩ ⟨rfl, rfl⟩ (Nat.le_of_ble_eq_true rfl) rfl ?_
    refine J_iload_n (pc' := 22) d_Rs_give_21 rfl 2 rfl ?_
    refine J_putI (pc' := 25) d_Rs_give_22 rfl (sh_Ro (is_Rs_at v1)) fp_Rs_92 rfl ?_
    obtain rfl := Option.some.inj hf
    exact J_vret d_Rs_give_25
theorem ct_Rs_give (V : Vx) (l : Launch) (σ : Sg) (v1 : Int32) (v2 : Int32) {σ' : Sg} (hf : f_Rs_give σ v1 v2 = some σ') : Ct V l y_Rs_give c_Rs_give 3 none (k2_rm 2 43) [rf V 5, .int v1, .int v2] σ none σ' := Ct.ofJ (by decide +kernel) (Nat.le_of_ble_eq_true rfl) fun X _ => j_Rs_give _ v1 v2 hf
