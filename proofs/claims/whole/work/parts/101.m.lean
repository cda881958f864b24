theorem d_Rs_rank_0 : decode c_Rs_rank 0 = .ok (.iconst 0, 1) := by decide +kernel
theorem d_Rs_rank_1 : decode c_Rs_rank 1 = .ok (.istore_n 2, 1) := by decide +kernel
theorem d_Rs_rank_2 : decode c_Rs_rank 2 = .ok (.iconst 0, 1) := by decide +kernel
theorem d_Rs_rank_3 : decode c_Rs_rank 3 = .ok (.istore_n 3, 1) := by decide +kernel
theorem d_Rs_rank_4 : decode c_Rs_rank 4 = .ok (.aload_n 0, 1) := by decide +kernel
theorem d_Rs_rank_5 : decode c_Rs_rank 5 = .ok (.getfield 30, 3) := by decide +kernel
theorem d_Rs_rank_8 : decode c_Rs_rank 8 = .ok (.iconst (-1), 1) := by decide +kernel
theorem d_Rs_rank_9 : decode c_Rs_rank 9 = .ok (.if_icmp .ne 40, 3) := by decide +kernel
theorem d_Rs_rank_12 : decode c_Rs_rank 12 = .ok (.iconst 0, 1) := by decide +kernel
theorem d_Rs_rank_13 : decode c_Rs_rank 13 = .ok (.istore_n 3, 1) := by decide +kernel
theorem d_Rs_rank_14 : decode c_Rs_rank 14 = .ok (.iload_n 3, 1) := by decide +kernel
theorem d_Rs_rank_15 : decode c_Rs_rank 15 = .ok (.aload_n 1, 1) := by decide +kernel
theorem d_Rs_rank_16 : decode c_Rs_rank 16 = .ok (.getfield 60, 3) := by decide +kernel
theorem d_Rs_rank_19 : decode c_Rs_rank 19 = .ok (.if_icmp .ge 30, 3) := by decide +kernel
theorem d_Rs_rank_22 : decode c_Rs_rank 22 = .ok (.aload_n 1, 1) := by decide +kernel
theorem d_Rs_rank_23 : decode c_Rs_rank 23 = .ok (.iload_n 3, 1) := by decide +kernel
theorem d_Rs_rank_24 : decode c_Rs_rank 24 = .ok (.invokevirtual 75, 3) := by decide +kernel
theorem d_Rs_rank_27 : decode c_Rs_rank 27 = .ok (.istore 4, 2) := by decide +kernel
theorem d_Rs_rank_29 : decode c_Rs_rank 29 = .ok (.iload_n 2, 1) := by decide +kernel
theorem d_Rs_rank_30 : decode c_Rs_rank 30 = .ok (.iconst 1, 1) := by decide +kernel
theorem d_Rs_rank_31 : decode c_Rs_rank 31 = .ok (.iload 4, 2) := by decide +kernel
theorem d_Rs_rank_33 : decode c_Rs_rank 33 = .ok (.ishl, 1) := by decide +kernel
theorem d_Rs_rank_34 : decode c_Rs_rank 34 = .ok (.ior, 1) := by decide +kernel
theorem d_Rs_rank_35 : decode c_Rs_rank 35 = .ok (.istore_n 2, 1) := by decide +kernel
theorem d_Rs_rank_36 : decode c_Rs_rank 36 = .ok (.aload_n 0, 1) := by decide +kernel
theorem d_Rs_rank_37 : decode c_Rs_rank 37 = .ok (.iload 4, 2) := by decide +kernel
theorem d_Rs_rank_39 : decode c_Rs_rank 39 = .ok (.iload_n 3, 1) := by decide +kernel
theorem d_Rs_rank_40 : decode c_Rs_rank 40 = .ok (.invokevirtual 89, 3) := by decide +kernel
theorem d_Rs_rank_43 : decode c_Rs_rank 43 = .ok (.iinc 3 1, 3) := by decide +kernel
theorem d_Rs_rank_46 : decode c_Rs_rank 46 = .ok (.goto (-32), 3) := by decide +kernel
theorem d_Rs_rank_49 : decode c_Rs_rank 49 = .ok (.iconst 0, 1) := by decide +kernel
theorem d_Rs_rank_50 : decode c_Rs_rank 50 = .ok (.istore 4, 2) := by decide +kernel
theorem d_Rs_rank_52 : decode c_Rs_rank 52 = .ok (.iload 4, 2) := by decide +kernel
theorem d_Rs_rank_54 : decode c_Rs_rank 54 = .ok (.aload_n 0, 1) := by decide +kernel
theorem d_Rs_rank_55 : decode c_Rs_rank 55 = .ok (.getfield 33, 3) := by decide +kernel
theorem d_Rs_rank_58 : decode c_Rs_rank 58 = .ok (.if_icmp .ge 28, 3) := by decide +kernel
theorem d_Rs_rank_61 : decode c_Rs_rank 61 = .ok (.iload_n 2, 1) := by decide +kernel
theorem d_Rs_rank_62 : decode c_Rs_rank 62 = .ok (.iconst 1, 1) := by decide +kernel
theorem d_Rs_rank_63 : decode c_Rs_rank 63 = .ok (.iload 4, 2) := by decide +kernel
theorem d_Rs_rank_65 : decode c_Rs_rank 65 = .ok (.ishl, 1) := by decide +kernel
theorem d_Rs_rank_66 : decode c_Rs_rank 66 = .ok (.iand, 1) := by decide +kernel
theorem d_Rs_rank_67 : decode c_Rs_rank 67 = .ok (.ifCond .ne 13, 3) := by decide +kernel
theorem d_Rs_rank_70 : decode c_Rs_rank 70 = .ok (.aload_n 0, 1) := by decide +kernel
theorem d_Rs_rank_71 : decode c_Rs_rank 71 = .ok (.iload 4, 2) := by decide +kernel
theorem d_Rs_rank_73 : decode c_Rs_rank 73 = .ok (.iload_n 3, 1) := by decide +kernel
theorem d_Rs_rank_74 : decode c_Rs_rank 74 = .ok (.invokevirtual 89, 3) := by decide +kernel
theorem d_Rs_rank_77 : decode c_Rs_rank 77 = .ok (.iinc 3 1, 3) := by decide +kernel
theorem d_Rs_rank_80 : decode c_Rs_rank 80 = .ok (.iinc 4 1, 3) := by decide +kernel
theorem d_Rs_rank_83 : decode c_Rs_rank 83 = .ok (.goto (-31), 3) := by decide +kernel
theorem d_Rs_rank_86 : decode c_Rs_rank 86 = .ok (.return_, 1) := by decide +kernel
theorem d_Rs_learn_0 : decode c_Rs_learn 0 = .ok (.aload_n 0, 1) := by decide +kernel
theorem d_Rs_learn_1 : decode c_Rs_learn 1 = .ok (.aload_n 0, 1) := by decide +kernel
theorem d_Rs_learn_2 : decode c_Rs_learn 2 = .ok (.aload_n 1, 1) := by decide +kernel
theorem d_Rs_learn_3 : decode c_Rs_learn 3 = .ok (.invokevirtual 56, 3) := by decide +kernel
theorem d_Rs_learn_6 : decode c_Rs_learn 6 = .ok (.putfield 26, 3) := by decide +kernel
theorem d_Rs_learn_9 : decode c_Rs_learn 9 = .ok (.aload_n 0, 1) := by decide +kernel
theorem d_Rs_learn_10 : decode c_Rs_learn 10 = .ok (.aload_n 0, 1) := by decide +kernel
theorem d_Rs_learn_11 : decode c_Rs_learn 11 = .ok (.getfield 26, 3) := by decide +kernel
theorem d_Rs_learn_14 : decode c_Rs_learn 14 = .ok (.iconst (-1), 1) := by decide +kernel
theorem d_Rs_learn_15 : decode c_Rs_learn 15 = .ok (.if_icmp .ne 15, 3) := by decide +kernel
theorem d_Rs_learn_18 : decode c_Rs_learn 18 = .ok (.aload_n 1, 1) := by decide +kernel
theorem d_Rs_learn_19 : decode c_Rs_learn 19 = .ok (.getfield 60, 3) := by decide +kernel
theorem d_Rs_learn_22 : decode c_Rs_learn 22 = .ok (.iconst 1, 1) := by decide +kernel
theorem d_Rs_learn_23 : decode c_Rs_learn 23 = .ok (.iadd, 1) := by decide +kernel
theorem d_Rs_learn_24 : decode c_Rs_learn 24 = .ok (.bipush 7, 2) := by decide +kernel
theorem d_Rs_learn_26 : decode c_Rs_learn 26 = .ok (.idiv, 1) := by decide +kernel
theorem d_Rs_learn_27 : decode c_Rs_learn 27 = .ok (.goto 4, 3) := by decide +kernel
theorem d_Rs_learn_30 : decode c_Rs_learn 30 = .ok (.iconst 0, 1) := by decide +kernel
theorem d_Rs_learn_31 : decode c_Rs_learn 31 = .ok (.putfield 33, 3) := by decide +kernel
theorem d_Rs_learn_34 : decode c_Rs_learn 34 = .ok (.aload_n 0, 1) := by decide +kernel
theorem d_Rs_learn_35 : decode c_Rs_learn 35 = .ok (.aload_n 0, 1) := by decide +kernel
theorem d_Rs_learn_36 : decode c_Rs_learn 36 = .ok (.aload_n 2, 1) := by decide +kernel
theorem d_Rs_learn_37 : decode c_Rs_learn 37 = .ok (.invokevirtual 65, 3) := by decide +kernel
theorem d_Rs_learn_40 : decode c_Rs_learn 40 = .ok (.putfield 30, 3) := by decide +kernel
theorem d_Rs_learn_43 : decode c_Rs_learn 43 = .ok (.aload_n 0, 1) := by decide +kernel
theorem d_Rs_learn_44 : decode c_Rs_learn 44 = .ok (.aload_n 2, 1) := by decide +kernel
theorem d_Rs_learn_45 : decode c_Rs_learn 45 = .ok (.invokevirtual 68, 3) := by decide +kernel
theorem d_Rs_learn_48 : decode c_Rs_learn 48 = .ok (.return_, 1) := by decide +kernel
theorem d_GR_type_0 : decode c_GR_type 0 = .ok (.iload_n 1, 1) := by decide +kernel
theorem d_GR_type_1 : decode c_GR_type 1 = .ok (.iconst 2, 1) := by decide +kernel
theorem d_GR_type_2 : decode c_GR_type 2 = .ok (.invokestatic 67, 3) := by decide +kernel
theorem d_GR_type_5 : decode c_GR_type 5 = .ok (.ifCond .eq 13, 3) := by decide +kernel
theorem d_GR_type_8 : decode c_GR_type 8 = .ok (.iload_n 2, 1) := by decide +kernel
theorem d_GR_type_9 : decode c_GR_type 9 = .ok (.sipush 256, 3) := by decide +kernel
theorem d_GR_type_12 : decode c_GR_type 12 = .ok (.invokestatic 67, 3) := by decide +kernel
theorem d_GR_type_15 : decode c_GR_type 15 = .ok (.ifCond .ne 6, 3) := by decide +kernel
theorem d_GR_type_18 : decode c_GR_type 18 = .ok (.bipush (-2), 2) := by decide +kernel
theorem d_GR_type_20 : decode c_GR_type 20 = .ok (.ireturn, 1) := by decide +kernel
theorem d_GR_type_21 : decode c_GR_type 21 = .ok (.aload_n 0, 1) := by decide +kernel
theorem d_GR_type_22 : decode c_GR_type 22 = .ok (.iload_n 1, 1) := by decide +kernel
theorem d_GR_type_23 : decode c_GR_type 23 = .ok (.invokevirtual 71, 3) := by decide +kernel
theorem d_GR_type_26 : decode c_GR_type 26 = .ok (.astore_n 3, 1) := by decide +kernel
theorem d_GR_type_27 : decode c_GR_type 27 = .ok (.aload_n 3, 1) := by decide +kernel
theorem d_GR_type_28 : decode c_GR_type 28 = .ok (.invokevirtual 75, 3) := by decide +kernel
theorem d_GR_type_31 : decode c_GR_type 31 = .ok (.ifCond .eq 6, 3) := by decide +kernel
theorem d_GR_type_34 : decode c_GR_type 34 = .ok (.bipush (-4), 2) := by decide +kernel
theorem d_GR_type_36 : decode c_GR_type 36 = .ok (.ireturn, 1) := by decide +kernel
theorem d_GR_type_37 : decode c_GR_type 37 = .ok (.aload_n 3, 1) := by decide +kernel
theorem d_GR_type_38 : decode c_GR_type 38 = .ok (.iload_n 2, 1) := by decide +kernel
theorem d_GR_type_39 : decode c_GR_type 39 = .ok (.invokevirtual 79, 3) := by decide +kernel
theorem d_GR_type_42 : decode c_GR_type 42 = .ok (.aload_n 0, 1) := by decide +kernel
theorem d_GR_type_43 : decode c_GR_type 43 = .ok (.getfield 24, 3) := by decide +kernel
theorem d_GR_type_46 : decode c_GR_type 46 = .ok (.aload_n 0, 1) := by decide +kernel
theorem d_GR_type_47 : decode c_GR_type 47 = .ok (.getfield 14, 3) := by decide +kernel
theorem d_GR_type_50 : decode c_GR_type 50 = .ok (.aload_n 0, 1) := by decide +kernel
theorem d_GR_type_51 : decode c_GR_type 51 = .ok (.getfield 18, 3) := by decide +kernel
theorem d_GR_type_54 : decode c_GR_type 54 = .ok (.invokevirtual 82, 3) := by decide +kernel
theorem d_GR_type_57 : decode c_GR_type 57 = .ok (.aload_n 3, 1) := by decide +kernel
theorem d_GR_type_58 : decode c_GR_type 58 = .ok (.getfield 86, 3) := by decide +kernel
theorem d_GR_type_61 : decode c_GR_type 61 = .ok (.ireturn, 1) := by decide +kernel
theorem d_Te_drop_0 : decode c_Te_drop 0 = .ok (.aload_n 0, 1) := by decide +kernel
theorem d_Te_drop_1 : decode c_Te_drop 1 = .ok (.getfield 25, 3) := by decide +kernel
theorem d_Te_drop_4 : decode c_Te_drop 4 = .ok (.istore_n 1, 1) := by decide +kernel
theorem d_Te_drop_5 : decode c_Te_drop 5 = .ok (.aload_n 0, 1) := by decide +kernel
theorem d_Te_drop_6 : decode c_Te_drop 6 = .ok (.iconst 0, 1) := by decide +kernel
theorem d_Te_drop_7 : decode c_Te_drop 7 = .ok (.putfield 25, 3) := by decide +kernel
theorem d_Te_drop_10 : decode c_Te_drop 10 = .ok (.iload_n 1, 1) := by decide +kernel
theorem d_Te_drop_11 : decode c_Te_drop 11 = .ok (.ireturn, 1) := by decide +kernel
theorem d_GR_wipe_0 : decode c_GR_wipe 0 = .ok (.iload_n 1, 1) := by decide +kernel
theorem d_GR_wipe_1 : decode c_GR_wipe 1 = .ok (.iconst 2, 1) := by decide +kernel
theorem d_GR_wipe_2 : decode c_GR_wipe 2 = .ok (.invokestatic 67, 3) := by decide +kernel
theorem d_GR_wipe_5 : decode c_GR_wipe 5 = .ok (.ifCond .ne 6, 3) := by decide +kernel
theorem d_GR_wipe_8 : decode c_GR_wipe 8 = .ok (.bipush (-2), 2) := by decide +kernel
theorem d_GR_wipe_10 : decode c_GR_wipe 10 = .ok (.ireturn, 1) := by decide +kernel
theorem d_GR_wipe_11 : decode c_GR_wipe 11 = .ok (.aload_n 0, 1) := by decide +kernel
theorem d_GR_wipe_12 : decode c_GR_wipe 12 = .ok (.iload_n 1, 1) := by decide +kernel
theorem d_GR_wipe_13 : decode c_GR_wipe 13 = .ok (.invokevirtual 71, 3) := by decide +kernel
theorem d_GR_wipe_16 : decode c_GR_wipe 16 = .ok (.astore_n 2, 1) := by decide +kernel
theorem d_GR_wipe_17 : decode c_GR_wipe 17 = .ok (.aload_n 2, 1) := by decide +kernel
theorem d_GR_wipe_18 : decode c_GR_wipe 18 = .ok (.invokevirtual 90, 3) := by decide +kernel
theorem d_GR_wipe_21 : decode c_GR_wipe 21 = .ok (.istore_n 3, 1) := by decide +kernel
theorem d_GR_wipe_22 : decode c_GR_wipe 22 = .ok (.aload_n 0, 1) := by decide +kernel
theorem d_GR_wipe_23 : decode c_GR_wipe 23 = .ok (.getfield 24, 3) := by decide +kernel
theorem d_GR_wipe_26 : decode c_GR_wipe 26 = .ok (.aload_n 0, 1) := by decide +kernel
theorem d_GR_wipe_27 : decode c_GR_wipe 27 = .ok (.getfield 14, 3) := by decide +kernel
theorem d_GR_wipe_30 : decode c_GR_wipe 30 = .ok (.aload_n 0, 1) := by decide +kernel
theorem d_GR_wipe_31 : decode c_GR_wipe 31 = .ok (.getfield 18, 3) := by decide +kernel
theorem d_GR_wipe_34 : decode c_GR_wipe 34 = .ok (.invokevirtual 82, 3) := by decide +kernel
theorem d_GR_wipe_37 : decode c_GR_wipe 37 = .ok (.iload_n 3, 1) := by decide +kernel
theorem d_GR_wipe_38 : decode c_GR_wipe 38 = .ok (.ireturn, 1) := by decide +kernel
theorem d_GR_fault_0 : decode c_GR_fault 0 = .ok (.iload_n 1, 1) := by decide +kernel
theorem d_GR_fault_1 : decode c_GR_fault 1 = .ok (.iconst 2, 1) := by decide +kernel
theorem d_GR_fault_2 : decode c_GR_fault 2 = .ok (.invokestatic 67, 3) := by decide +kernel
theorem d_GR_fault_5 : decode c_GR_fault 5 = .ok (.ifCond .ne 6, 3) := by decide +kernel
theorem d_GR_fault_8 : decode c_GR_fault 8 = .ok (.bipush (-2), 2) := by decide +kernel
theorem d_GR_fault_10 : decode c_GR_fault 10 = .ok (.ireturn, 1) := by decide +kernel
theorem d_GR_fault_11 : decode c_GR_fault 11 = .ok (.iload_n 1, 1) := by decide +kernel
theorem d_GR_fault_12 : decode c_GR_fault 12 = .ok (.ifCond .ne 13, 3) := by decide +kernel
theorem d_GR_fault_15 : decode c_GR_fault 15 = .ok (.aload_n 0, 1) := by decide +kernel
theorem d_GR_fault_16 : decode c_GR_fault 16 = .ok (.getfield 24, 3) := by decide +kernel
theorem d_GR_fault_19 : decode c_GR_fault 19 = .ok (.getfield 94, 3) := by decide +kernel
theorem d_GR_fault_22 : decode c_GR_fault 22 = .ok (.goto 10, 3) := by decide +kernel
theorem d_GR_fault_25 : decode c_GR_fault 25 = .ok (.aload_n 0, 1) := by decide +kernel
theorem d_GR_fault_26 : decode c_GR_fault 26 = .ok (.getfield 24, 3) := by decide +kernel
theorem d_GR_fault_29 : decode c_GR_fault 29 = .ok (.getfield 97, 3) := by decide +kernel
theorem d_GR_fault_32 : decode c_GR_fault 32 = .ok (.ireturn, 1) := by decide +kernel
theorem d_Ro_tell_0 : decode c_Ro_tell 0 = .ok (.iload_n 1, 1) := by decide +kernel
theorem d_Ro_tell_1 : decode c_Ro_tell 1 = .ok (.tableswitch 69 0 5 #[39, 44, 49, 54, 59, 64], 39) := by decide +kernel
theorem d_Ro_tell_40 : decode c_Ro_tell 40 = .ok (.aload_n 0, 1) := by decide +kernel
theorem d_Ro_tell_41 : decode c_Ro_tell 41 = .ok (.getfield 7, 3) := by decide +kernel
theorem d_Ro_tell_44 : decode c_Ro_tell 44 = .ok (.ireturn, 1) := by decide +kernel
theorem d_Ro_tell_45 : decode c_Ro_tell 45 = .ok (.aload_n 0, 1) := by decide +kernel
theorem d_Ro_tell_46 : decode c_Ro_tell 46 = .ok (.getfield 13, 3) := by decide +kernel
theorem d_Ro_tell_49 : decode c_Ro_tell 49 = .ok (.ireturn, 1) := by decide +kernel
theorem d_Ro_tell_50 : decode c_Ro_tell 50 = .ok (.aload_n 0, 1) := by decide +kernel
theorem d_Ro_tell_51 : decode c_Ro_tell 51 = .ok (.getfield 16, 3) := by decide +kernel
theorem d_Ro_tell_54 : decode c_Ro_tell 54 = .ok (.ireturn, 1) := by decide +kernel
theorem d_Ro_tell_55 : decode c_Ro_tell 55 = .ok (.aload_n 0, 1) := by decide +kernel
theorem d_Ro_tell_56 : decode c_Ro_tell 56 = .ok (.getfield 19, 3) := by decide +kernel
theorem d_Ro_tell_59 : decode c_Ro_tell 59 = .ok (.ireturn, 1) := by decide +kernel
theorem d_Ro_tell_60 : decode c_Ro_tell 60 = .ok (.aload_n 0, 1) := by decide +kernel
theorem d_Ro_tell_61 : decode c_Ro_tell 61 = .ok (.getfield 22, 3) := by decide +kernel
theorem d_Ro_tell_64 : decode c_Ro_tell 64 = .ok (.ireturn, 1) := by decide +kernel
theorem d_Ro_tell_65 : decode c_Ro_tell 65 = .ok (.aload_n 0, 1) := by decide +kernel
theorem d_Ro_tell_66 : decode c_Ro_tell 66 = .ok (.getfield 25, 3) := by decide +kernel
theorem d_Ro_tell_69 : decode c_Ro_tell 69 = .ok (.ireturn, 1) := by decide +kernel
theorem d_Ro_tell_70 : decode c_Ro_tell 70 = .ok (.aload_n 0, 1) := by decide +kernel
theorem d_Ro_tell_71 : decode c_Ro_tell 71 = .ok (.getfield 28, 3) := by decide +kernel
theorem d_Ro_tell_74 : decode c_Ro_tell 74 = .ok (.ireturn, 1) := by decide +kernel
theorem d_GR_rope_0 : decode c_GR_rope 0 = .ok (.aload_n 0, 1) := by decide +kernel
theorem d_GR_rope_1 : decode c_GR_rope 1 = .ok (.getfield 24, 3) := by decide +kernel
theorem d_GR_rope_4 : decode c_GR_rope 4 = .ok (.iload_n 1, 1) := by decide +kernel
theorem d_GR_rope_5 : decode c_GR_rope 5 = .ok (.invokevirtual 100, 3) := by decide +kernel
theorem d_GR_rope_8 : decode c_GR_rope 8 = .ok (.ifCond .eq 12, 3) := by decide +kernel
theorem d_GR_rope_11 : decode c_GR_rope 11 = .ok (.iload_n 2, 1) := by decide +kernel
theorem d_GR_rope_12 : decode c_GR_rope 12 = .ok (.bipush 7, 2) := by decide +kernel
theorem d_GR_rope_14 : decode c_GR_rope 14 = .ok (.invokestatic 67, 3) := by decide +kernel
theorem d_GR_rope_17 : decode c_GR_rope 17 = .ok (.ifCond .ne 6, 3) := by decide +kernel
theorem d_GR_rope_20 : decode c_GR_rope 20 = .ok (.bipush (-2), 2) := by decide +kernel
theorem d_GR_rope_22 : decode c_GR_rope 22 = .ok (.ireturn, 1) := by decide +kernel
theorem d_GR_rope_23 : decode c_GR_rope 23 = .ok (.aload_n 0, 1) := by decide +kernel
theorem d_GR_rope_24 : decode c_GR_rope 24 = .ok (.getfield 24, 3) := by decide +kernel
theorem d_GR_rope_27 : decode c_GR_rope 27 = .ok (.iload_n 1, 1) := by decide +kernel
theorem d_GR_rope_28 : decode c_GR_rope 28 = .ok (.invokevirtual 104, 3) := by decide +kernel
theorem d_GR_rope_31 : decode c_GR_rope 31 = .ok (.iload_n 2, 1) := by decide +kernel
theorem d_GR_rope_32 : decode c_GR_rope 32 = .ok (.invokevirtual 108, 3) := by decide +kernel
theorem d_GR_rope_35 : decode c_GR_rope 35 = .ok (.ireturn, 1) := by decide +kernel
theorem d_Rs_hasTwo_0 : decode c_Rs_hasTwo 0 = .ok (.aload_n 0, 1) := by decide +kernel
theorem d_Rs_hasTwo_1 : decode c_Rs_hasTwo 1 = .ok (.iload_n 1, 1) := by decide +kernel
theorem d_Rs_hasTwo_2 : decode c_Rs_hasTwo 2 = .ok (.invokevirtual 40, 3) := by decide +kernel
theorem d_Rs_hasTwo_5 : decode c_Rs_hasTwo 5 = .ok (.ifCond .eq 20, 3) := by decide +kernel
theorem d_Rs_hasTwo_8 : decode c_Rs_hasTwo 8 = .ok (.aload_n 0, 1) := by decide +kernel
theorem d_Rs_hasTwo_9 : decode c_Rs_hasTwo 9 = .ok (.iload_n 2, 1) := by decide +kernel
theorem d_Rs_hasTwo_10 : decode c_Rs_hasTwo 10 = .ok (.invokevirtual 40, 3) := by decide +kernel
theorem d_Rs_hasTwo_13 : decode c_Rs_hasTwo 13 = .ok (.ifCond .eq 12, 3) := by decide +kernel
theorem d_Rs_hasTwo_16 : decode c_Rs_hasTwo 16 = .ok (.iload_n 1, 1) := by decide +kernel
theorem d_Rs_hasTwo_17 : decode c_Rs_hasTwo 17 = .ok (.iload_n 2, 1) := by decide +kernel
theorem d_Rs_hasTwo_18 : decode c_Rs_hasTwo 18 = .ok (.if_icmp .eq 7, 3) := by decide +kernel
theorem d_Rs_hasTwo_21 : decode c_Rs_hasTwo 21 = .ok (.iconst 1, 1) := by decide +kernel
theorem d_Rs_hasTwo_22 : decode c_Rs_hasTwo 22 = .ok (.goto 4, 3) := by decide +kernel
theorem d_Rs_hasTwo_25 : decode c_Rs_hasTwo 25 = .ok (.iconst 0, 1) := by decide +kernel
theorem d_Rs_hasTwo_26 : decode c_Rs_hasTwo 26 = .ok (.ireturn, 1) := by decide +kernel
theorem d_Ro_meets_0 : decode c_Ro_meets 0 = .ok (.aload_n 0, 1) := by decide +kernel
theorem d_Ro_meets_1 : decode c_Ro_meets 1 = .ok (.getfield 7, 3) := by decide +kernel
theorem d_Ro_meets_4 : decode c_Ro_meets 4 = .ok (.aload_n 1, 1) := by decide +kernel
theorem d_Ro_meets_5 : decode c_Ro_meets 5 = .ok (.getfield 7, 3) := by decide +kernel
theorem d_Ro_meets_8 : decode c_Ro_meets 8 = .ok (.isub, 1) := by decide +kernel
theorem d_Ro_meets_9 : decode c_Ro_meets 9 = .ok (.aload_n 0, 1) := by decide +kernel
theorem d_Ro_meets_10 : decode c_Ro_meets 10 = .ok (.getfield 13, 3) := by decide +kernel
theorem d_Ro_meets_13 : decode c_Ro_meets 13 = .ok (.aload_n 1, 1) := by decide +kernel
theorem d_Ro_meets_14 : decode c_Ro_meets 14 = .ok (.getfield 13, 3) := by decide +kernel
theorem d_Ro_meets_17 : decode c_Ro_meets 17 = .ok (.isub, 1) := by decide +kernel
theorem d_Ro_meets_18 : decode c_Ro_meets 18 = .ok (.imul, 1) := by decide +kernel
theorem d_Ro_meets_19 : decode c_Ro_meets 19 = .ok (.ifCond .ge 7, 3) := by decide +kernel
theorem d_Ro_meets_22 : decode c_Ro_meets 22 = .ok (.iconst 1, 1) := by decide +kernel
theorem d_Ro_meets_23 : decode c_Ro_meets 23 = .ok (.goto 4, 3) := by decide +kernel
theorem d_Ro_meets_26 : decode c_Ro_meets 26 = .ok (.iconst 0, 1) := by decide +kernel
theorem d_Ro_meets_27 : decode c_Ro_meets 27 = .ok (.ireturn, 1) := by decide +kernel
theorem d_Rs_metBy_0 : decode c_Rs_metBy 0 = .ok (.iconst 0, 1) := by decide +kernel
theorem d_Rs_metBy_1 : decode c_Rs_metBy 1 = .ok (.istore_n 2, 1) := by decide +kernel
theorem d_Rs_metBy_2 : decode c_Rs_metBy 2 = .ok (.iconst 0, 1) := by decide +kernel
theorem d_Rs_metBy_3 : decode c_Rs_metBy 3 = .ok (.istore_n 3, 1) := by decide +kernel
theorem d_Rs_metBy_4 : decode c_Rs_metBy 4 = .ok (.iload_n 3, 1) := by decide +kernel
theorem d_Rs_metBy_5 : decode c_Rs_metBy 5 = .ok (.aload_n 0, 1) := by decide +kernel
theorem d_Rs_metBy_6 : decode c_Rs_metBy 6 = .ok (.getfield 33, 3) := by decide +kernel
theorem d_Rs_metBy_9 : decode c_Rs_metBy 9 = .ok (.if_icmp .ge 24, 3) := by decide +kernel
theorem d_Rs_metBy_12 : decode c_Rs_metBy 12 = .ok (.aload_n 1, 1) := by decide +kernel
theorem d_Rs_metBy_13 : decode c_Rs_metBy 13 = .ok (.aload_n 0, 1) := by decide +kernel
theorem d_Rs_metBy_14 : decode c_Rs_metBy 14 = .ok (.iload_n 3, 1) := by decide +kernel
theorem d_Rs_metBy_15 : decode c_Rs_metBy 15 = .ok (.invokevirtual 44, 3) := by decide +kernel
theorem d_Rs_metBy_18 : decode c_Rs_metBy 18 = .ok (.invokevirtual 48, 3) := by decide +kernel
theorem d_Rs_metBy_21 : decode c_Rs_metBy 21 = .ok (.ifCond .eq 6, 3) := by decide +kernel
theorem d_Rs_metBy_24 : decode c_Rs_metBy 24 = .ok (.iinc 2 1, 3) := by decide +kernel
theorem d_Rs_metBy_27 : decode c_Rs_metBy 27 = .ok (.iinc 3 1, 3) := by decide +kernel
theorem d_Rs_metBy_30 : decode c_Rs_metBy 30 = .ok (.goto (-26), 3) := by decide +kernel
theorem d_Rs_metBy_33 : decode c_Rs_metBy 33 = .ok (.iload_n 2, 1) := by decide +kernel
theorem d_Rs_metBy_34 : decode c_Rs_metBy 34 = .ok (.ireturn, 1) := by decide +kernel
theorem d_GR_crosses_0 : decode c_GR_crosses 0 = .ok (.aload_n 0, 1) := by decide +kernel
theorem d_GR_crosses_1 : decode c_GR_crosses 1 = .ok (.getfield 24, 3) := by decide +kernel
theorem d_GR_crosses_4 : decode c_GR_crosses 4 = .ok (.iload_n 1, 1) := by decide +kernel
theorem d_GR_crosses_5 : decode c_GR_crosses 5 = .ok (.iload_n 2, 1) := by decide +kernel
theorem d_GR_crosses_6 : decode c_GR_crosses 6 = .ok (.invokevirtual 114, 3) := by decide +kernel
theorem d_GR_crosses_9 : decode c_GR_crosses 9 = .ok (.ifCond .eq 11, 3) := by decide +kernel
theorem d_GR_crosses_12 : decode c_GR_crosses 12 = .ok (.iload_n 3, 1) := by decide +kernel
theorem d_GR_crosses_13 : decode c_GR_crosses 13 = .ok (.iconst 2, 1) := by decide +kernel
theorem d_GR_crosses_14 : decode c_GR_crosses 14 = .ok (.invokestatic 67, 3) := by decide +kernel
theorem d_GR_crosses_17 : decode c_GR_crosses 17 = .ok (.ifCond .ne 6, 3) := by decide +kernel
theorem d_GR_crosses_20 : decode c_GR_crosses 20 = .ok (.bipush (-2), 2) := by decide +kernel
theorem d_GR_crosses_22 : decode c_GR_crosses 22 = .ok (.ireturn, 1) := by decide +kernel
theorem d_GR_crosses_23 : decode c_GR_crosses 23 = .ok (.aload_n 0, 1) := by decide +kernel
theorem d_GR_crosses_24 : decode c_GR_crosses 24 = .ok (.getfield 24, 3) := by decide +kernel
theorem d_GR_crosses_27 : decode c_GR_crosses 27 = .ok (.iload_n 1, 1) := by decide +kernel
theorem d_GR_crosses_28 : decode c_GR_crosses 28 = .ok (.invokevirtual 104, 3) := by decide +kernel
theorem d_GR_crosses_31 : decode c_GR_crosses 31 = .ok (.astore 4, 2) := by decide +kernel
theorem d_GR_crosses_33 : decode c_GR_crosses 33 = .ok (.iload_n 3, 1) := by decide +kernel
theorem d_GR_crosses_34 : decode c_GR_crosses 34 = .ok (.iconst 1, 1) := by decide +kernel
theorem d_GR_crosses_35 : decode c_GR_crosses 35 = .ok (.if_icmp .ne 13, 3) := by decide +kernel
theorem d_GR_crosses_38 : decode c_GR_crosses 38 = .ok (.aload_n 0, 1) := by decide +kernel
theorem d_GR_crosses_39 : decode c_GR_crosses 39 = .ok (.getfield 24, 3) := by decide +kernel
theorem d_GR_crosses_42 : decode c_GR_crosses 42 = .ok (.aload 4, 2) := by decide +kernel
theorem d_GR_crosses_44 : decode c_GR_crosses 44 = .ok (.invokevirtual 117, 3) := by decide +kernel
theorem d_GR_crosses_47 : decode c_GR_crosses 47 = .ok (.ireturn, 1) := by decide +kernel
theorem d_GR_crosses_48 : decode c_GR_crosses 48 = .ok (.aload 4, 2) := by decide +kernel
theorem d_GR_crosses_50 : decode c_GR_crosses 50 = .ok (.aload_n 0, 1) := by decide +kernel
theorem d_GR_crosses_51 : decode c_GR_crosses 51 = .ok (.getfield 24, 3) := by decide +kernel
theorem d_GR_crosses_54 : decode c_GR_crosses 54 = .ok (.iload_n 2, 1) := by decide +kernel
theorem d_GR_crosses_55 : decode c_GR_crosses 55 = .ok (.invokevirtual 104, 3) := by decide +kernel
theorem d_GR_crosses_58 : decode c_GR_crosses 58 = .ok (.invokevirtual 121, 3) := by decide +kernel
theorem d_GR_crosses_61 : decode c_GR_crosses 61 = .ok (.ifCond .eq 7, 3) := by decide +kernel
theorem d_GR_crosses_64 : decode c_GR_crosses 64 = .ok (.iconst 1, 1) := by decide +kernel
theorem d_GR_crosses_65 : decode c_GR_crosses 65 = .ok (.goto 4, 3) := by decide +kernel
theorem d_GR_crosses_68 : decode c_GR_crosses 68 = .ok (.iconst 0, 1) := by decide +kernel
theorem d_GR_crosses_69 : decode c_GR_crosses 69 = .ok (.ireturn, 1) := by decide +kernel
theorem d_GR_longRefusal_0 : decode c_GR_longRefusal 0 = .ok (.ldc2_w 338, 3) := by decide +kernel
theorem d_GR_longRefusal_3 : decode c_GR_longRefusal 3 = .ok (.iload_n 0, 1) := by decide +kernel
theorem d_GR_longRefusal_4 : decode c_GR_longRefusal 4 = .ok (.i2l, 1) := by decide +kernel
theorem d_GR_longRefusal_5 : decode c_GR_longRefusal 5 = .ok (.lsub, 1) := by decide +kernel
theorem d_GR_longRefusal_6 : decode c_GR_longRefusal 6 = .ok (.lreturn, 1) := by decide +kernel
theorem d_JM_abs_0 : decode c_JM_abs 0 = .ok (.iload_n 0, 1) := by decide +kernel
theorem d_JM_abs_1 : decode c_JM_abs 1 = .ok (.ifCond .ge 8, 3) := by decide +kernel
theorem d_JM_abs_4 : decode c_JM_abs 4 = .ok (.iload_n 0, 1) := by decide +kernel
theorem d_JM_abs_5 : decode c_JM_abs 5 = .ok (.ineg, 1) := by decide +kernel
theorem d_JM_abs_6 : decode c_JM_abs 6 = .ok (.goto 4, 3) := by decide +kernel
theorem d_JM_abs_9 : decode c_JM_abs 9 = .ok (.iload_n 0, 1) := by decide +kernel
theorem d_JM_abs_10 : decode c_JM_abs 10 = .ok (.ireturn, 1) := by decide +kernel
theorem d_Ro_apart_0 : decode c_Ro_apart 0 = .ok (.iload_n 2, 1) := by decide +kernel
theorem d_Ro_apart_1 : decode c_Ro_apart 1 = .ok (.ifCond .ne 18, 3) := by decide +kernel
theorem d_Ro_apart_4 : decode c_Ro_apart 4 = .ok (.aload_n 0, 1) := by decide +kernel
theorem d_Ro_apart_5 : decode c_Ro_apart 5 = .ok (.getfield 7, 3) := by decide +kernel
theorem d_Ro_apart_8 : decode c_Ro_apart 8 = .ok (.aload_n 1, 1) := by decide +kernel
theorem d_Ro_apart_9 : decode c_Ro_apart 9 = .ok (.getfield 7, 3) := by decide +kernel
theorem d_Ro_apart_12 : decode c_Ro_apart 12 = .ok (.isub, 1) := by decide +kernel
theorem d_Ro_apart_13 : decode c_Ro_apart 13 = .ok (.invokestatic 47, 3) := by decide +kernel
theorem d_Ro_apart_16 : decode c_Ro_apart 16 = .ok (.goto 15, 3) := by decide +kernel
theorem d_Ro_apart_19 : decode c_Ro_apart 19 = .ok (.aload_n 0, 1) := by decide +kernel
theorem d_Ro_apart_20 : decode c_Ro_apart 20 = .ok (.getfield 13, 3) := by decide +kernel
theorem d_Ro_apart_23 : decode c_Ro_apart 23 = .ok (.aload_n 1, 1) := by decide +kernel
theorem d_Ro_apart_24 : decode c_Ro_apart 24 = .ok (.getfield 13, 3) := by decide +kernel
theorem d_Ro_apart_27 : decode c_Ro_apart 27 = .ok (.isub, 1) := by decide +kernel
theorem d_Ro_apart_28 : decode c_Ro_apart 28 = .ok (.invokestatic 47, 3) := by decide +kernel
theorem d_Ro_apart_31 : decode c_Ro_apart 31 = .ok (.ireturn, 1) := by decide +kernel
theorem d_Ro_span_0 : decode c_Ro_span 0 = .ok (.aload_n 0, 1) := by decide +kernel
theorem d_Ro_span_1 : decode c_Ro_span 1 = .ok (.aload_n 1, 1) := by decide +kernel
theorem d_Ro_span_2 : decode c_Ro_span 2 = .ok (.iconst 0, 1) := by decide +kernel
theorem d_Ro_span_3 : decode c_Ro_span 3 = .ok (.invokevirtual 51, 3) := by decide +kernel
theorem d_Ro_span_6 : decode c_Ro_span 6 = .ok (.aload_n 0, 1) := by decide +kernel
theorem d_Ro_span_7 : decode c_Ro_span 7 = .ok (.aload_n 1, 1) := by decide +kernel
theorem d_Ro_span_8 : decode c_Ro_span 8 = .ok (.iconst 1, 1) := by decide +kernel
theorem d_Ro_span_9 : decode c_Ro_span 9 = .ok (.invokevirtual 51, 3) := by decide +kernel
theorem d_Ro_span_12 : decode c_Ro_span 12 = .ok (.iadd, 1) := by decide +kernel
theorem d_Ro_span_13 : decode c_Ro_span 13 = .ok (.ireturn, 1) := by decide +kernel
def f_Rs_rank_80 (k52 : Sg → Int32 → Int32 → Int32 → Option Sg) (σ : Sg) (v2 : Int32) (v3 : Int32) (v4 : Int32) : Option Sg :=
  k52 σ v2 v3 (v4 + 1)
set_option maxHeartbeats 4000000 in
theorem j_Rs_rank_80 {V : Vx} {X : Xx} {σ' : Sg} {k52 : Sg → Int32 → Int32 → Int32 → Option Sg} (hk52 : ∀ (σ : Sg) (v2 : Int32) (v3 : Int32) (v4 : Int32), k52 σ v2 v3 v4 = some σ' → J V X (k2_rm 3 65) c_Rs_rank R_Rs 5 none (Qr V X none σ') σ 52 [(0, rf V 5), (2, .int v2), (3, .int v3), (4, .int v4)] []) (σ : Sg) (v2 : Int32) (v3 : Int32) (v4 : Int32) (hf : f_Rs_rank_80 k52 σ v2 v3 v4 = some σ') : J V X (k2_rm 3 65) c_Rs_rank R_Rs 5 none (Qr V X none σ') σ 80 [(0, rf V 5), (2, .int v2), (3, .int v3), (4, .int v4)] [] := by
  unfold f_Rs_rank_80 at hf
  refine J_iinc (pc' := 83) (j := 3) (v := 1) (lv' := [(4, .int (v4 + 1)), (0, rf V 5), (2, .int v2), (3, .int v3)]) d_Rs_rank_80 rfl rfl ic_1 (by decide) rfl ?_
  refine J_goto (tgt := 52) d_Rs_rank_83 (by decide) ?_
  refine J_pick [1, 2, 3, 0] rfl ?_
  exact hk52 _ _ _ _ hf
def f_Rs_rank_52 : Nat → Sg → Int32 → Int32 → Int32 → Option Sg
  | 0, _, _, _, _ => none
  | n + 1, σ, v2, v3, v4 =>
    if (σ.1 5 3) ≤ v4 then
      some σ
    else
      if (v2 &&& (1 <<< (v4 &&& 31))) = 0 then
        (f_Rs_give σ v4 v3).bind fun σ5 =>
          f_Rs_rank_80 (f_Rs_rank_52 n) σ5 v2 (v3 + 1) v4
      else
        f_Rs_rank_80 (f_Rs_rank_52 n) σ v2 v3 v4
theorem f_Rs_rank_52_s (n : Nat) (σ : Sg) (v2 : Int32) (v3 : Int32) (v4 : Int32) : f_Rs_rank_52 (n + 1) σ v2 v3 v4 =
    if (σ.1 5 3) ≤ v4 then
      some σ
    else
      if (v2 &&& (1 <<< (v4 &&& 31))) = 0 then
        (f_Rs_give σ v4 v3).bind fun σ5 =>
          f_Rs_rank_80 (f_Rs_rank_52 n) σ5 v2 (v3 + 1) v4
      else
        f_Rs_rank_80 (f_Rs_rank_52 n) σ v2 v3 v4 := rfl
set_option maxHeartbeats 4000000 in
theorem j_Rs_rank_52 {V : Vx} {X : Xx} {σ' : Sg}  : ∀ (n : Nat) (σ : Sg) (v2 : Int32) (v3 : Int32) (v4 : Int32), f_Rs_rank_52 n σ v2 v3 v4 = some σ' → J V X (k2_rm 3 65) c_Rs_rank R_Rs 5 none (Qr V X none σ') σ 52 [(0, rf V 5), (2, .int v2), (3, .int v3), (4, .int v4)] [] := by
  intro n
  induction n with
  | zero => intro σ v2 v3 v4 hf; exact nn hf
  | succ n ih =>
    intro σ v2 v3 v4 hf
    rw [f_Rs_rank_52_s] at hf
    refine J_iload (pc' := 54) d_Rs_rank_52 rfl 3 rfl ?_
    refine J_aload_n (pc' := 55) d_Rs_rank_54 rfl 0 rfl ?_
    refine J_getI (pc' := 58) d_Rs_rank_55 rfl sh_5 fl_Rs_33 rfl ?_
    refine J_icmp_ge (pc' := 61) (tgt := 86) d_Rs_rank_58 rfl (by decide) (fun hc2 => ?_) (fun hc2 => ?_)
    · have hf := brT hc2 hf
      obtain rfl := Option.some.inj hf
      exact J_vret d_Rs_rank_86
    · have hf := brF hc2 hf
      refine J_iload_n (pc' := 62) d_Rs_rank_61 rfl 1 rfl ?_
      refine J_iconst (pc' := 63) (v := 1) d_Rs_rank_62 rfl ic_1 ?_
      refine J_iload (pc' := 65) d_Rs_rank_63 rfl 3 rfl ?_
      refine J_ishl (pc' := 66) d_Rs_rank_65 rfl ?_
      refine J_iand (pc' := 67) d_Rs_rank_66 rfl ?_
      refine J_if_ne (pc' := 70) (tgt := 80) d_Rs_rank_67 rfl (by decide) (fun hc3 => ?_) (fun hc3 => ?_)
      · have hf := brF hc3 hf
        exact j_Rs_rank_80 ih _ _ _ _ hf
      · have hf := brT hc3 hf
        refine J_aload_n (pc' := 71) d_Rs_rank_70 rfl 0 rfl ?_
        refine J_iload (pc' := 73) d_Rs_rank_71 rfl 3 rfl ?_
        refine J_iload_n (pc' := 74) d_Rs_rank_73 rfl 2 rfl ?_
        obtain ⟨σ5, hq4, hf⟩ := bpE hf
        refine J_V (pc' := 77) (as := [.int v4, .int v3]) (rest := []) (st' := []) d_Rs_rank_74 rfl sh_5 rfl mv_Rs_89 (ct_Rs_give V _ σ v4 v3 hq4) rfl rfl ⟨Nat.le_of_ble_eq_true rfl, Nat.le_of_ble_eq_true rfl⟩ ⟨rfl, rfl⟩ (Nat.le_of_ble_eq_true rfl) rfl ?_
        refine J_iinc (pc' := 80) (j := 2) (v := 1) (lv' := [(3, .int (v3 + 1)), (0, rf V 5), (2, .int v2), (4, .int v4)]) d_Rs_rank_77 rfl rfl ic_1 (by decide) rfl ?_
        refine J_pick [1, 2, 0, 3] rfl ?_
        exact j_Rs_rank_80 ih _ _ _ _ hf
def f_Rs_rank_49 (σ : Sg) (v2 : Int32) (v3 : Int32) : Option Sg :=
  f_Rs_rank_52 FU σ v2 v3 0
set_option maxHeartbeats 4000000 in
theorem j_Rs_rank_49 {V : Vx} {X : Xx} {σ' : Sg}  (σ : Sg) (v2 : Int32) (v3 : Int32) (hf : f_Rs_rank_49 σ v2 v3 = some σ') : J V X (k2_rm 3 65) c_Rs_rank R_Rs 5 none (Qr V X none σ') σ 49 [(0, rf V 5), (2, .int v2), (3, .int v3)] [] := by
  unfold f_Rs_rank_49 at hf
  refine J_iconst (pc' := 50) (v := 0) d_Rs_rank_49 rfl ic_0 ?_
  refine J_istore (pc' := 52) (lv' := [(4, .int 0), (0, rf V 5), (2, .int v2), (3, .int v3)]) d_Rs_rank_50 rfl (by decide) rfl ?_
  refine J_pick [1, 2, 3, 0] rfl ?_
  exact j_Rs_rank_52 FU _ _ _ _ hf
def f_Rs_rank_14 : Nat → Sg → Nat → Int32 → Int32 → Option Sg
  | 0, _, _, _, _ => none
  | n + 1, σ, v1, v2, v3 =>
    if (σ.1 v1 2) ≤ v3 then
      f_Rs_rank_49 σ v2 v3
    else
      (f_Te_figureAt σ v1 v3).bind fun r8 =>
        (f_Rs_give σ r8 v3).bind fun σ10 =>
          f_Rs_rank_14 n σ10 v1 (v2 ||| (1 <<< (r8 &&& 31))) (v3 + 1)
theorem f_Rs_rank_14_s (n : Nat) (σ : Sg) (v1 : Nat) (v2 : Int32) (v3 : Int32) : f_Rs_rank_14 (n + 1) σ v1 v2 v3 =
    if (σ.1 v1 2) ≤ v3 then
      f_Rs_rank_49 σ v2 v3
    else
      (f_Te_figureAt σ v1 v3).bind fun r8 =>
        (f_Rs_give σ r8 v3).bind fun σ10 =>
          f_Rs_rank_14 n σ10 v1 (v2 ||| (1 <<< (r8 &&& 31))) (v3 + 1) := rfl
set_option maxHeartbeats 4000000 in
theorem j_Rs_rank_14 {V : Vx} {X : Xx} {σ' : Sg}  : ∀ (n : Nat) (σ : Sg) (v1 : Nat) (v2 : Int32) (v3 : Int32) (iv1 : is_Te v1), f_Rs_rank_14 n σ v1 v2 v3 = some σ' → J V X (k2_rm 3 65) c_Rs_rank R_Rs 5 none (Qr V X none σ') σ 14 [(0, rf V 5), (1, rf V v1), (2, .int v2), (3, .int v3)] [] := by
  intro n
  induction n with
  | zero => intro σ v1 v2 v3 iv1 hf; exact nn hf
  | succ n ih =>
    intro σ v1 v2 v3 iv1 hf
    rw [f_Rs_rank_14_s] at hf
    refine J_iload_n (pc' := 15) d_Rs_rank_14 rfl 3 rfl ?_
    refine J_aload_n (pc' := 16) d_Rs_rank_15 rfl 1 rfl ?_
    refine J_getI (pc' := 19) d_Rs_rank_16 rfl (sh_Te iv1) fl_Rs_60 rfl ?_
    refine J_icmp_ge (pc' := 22) (tgt := 49) d_Rs_rank_19 rfl (by decide) (fun hc6 => ?_) (fun hc6 => ?_)
    · have hf := brT hc6 hf
      refine J_pick [0, 2, 3] rfl ?_
      exact j_Rs_rank_49 _ _ _ hf
    · have hf := brF hc6 hf
      refine J_aload_n (pc' := 23) d_Rs_rank_22 rfl 1 rfl ?_
      refine J_iload_n (pc' := 24) d_Rs_rank_23 rfl 3 rfl ?_
      obtain ⟨r8, hq7, hf⟩ := bpE hf
      refine J_V (pc' := 27) (as := [.int v3]) (rest := []) (st' := [.int r8]) d_Rs_rank_24 rfl (sh_Te iv1) rfl mv_Rs_75 (ct_Te_figureAt V _ σ v1 v3 iv1 hq7) rfl rfl ⟨Nat.le_of_ble_eq_true rfl, Nat.le_of_ble_eq_true rfl⟩ ⟨rfl, rfl⟩ (Nat.le_of_ble_eq_true rfl) rfl ?_
      refine J_istore (pc' := 29) (lv' := [(4, .int r8), (0, rf V 5), (1, rf V v1), (2, .int v2), (3, .int v3)]) d_Rs_rank_27 rfl (by decide) rfl ?_
      refine J_iload_n (pc' := 30) d_Rs_rank_29 rfl 3 rfl ?_
      refine J_iconst (pc' := 31) (v := 1) d_Rs_rank_30 rfl ic_1 ?_
      refine J_iload (pc' := 33) d_Rs_rank_31 rfl 0 rfl ?_
      refine J_ishl (pc' := 34) d_Rs_rank_33 rfl ?_
      refine J_ior (pc' := 35) d_Rs_rank_34 rfl ?_
      refine J_istore_n (pc' := 36) (lv' := [(2, .int (v2 ||| (1 <<< (r8 &&& 31)))), (4, .int r8), (0, rf V 5), (1, rf V v1), (3, .int v3)]) d_Rs_rank_35 rfl rfl (by decide) rfl ?_
      refine J_aload_n (pc' := 37) d_Rs_rank_36 rfl 2 rfl ?_
      refine J_iload (pc' := 39) d_Rs_rank_37 rfl 1 rfl ?_
      refine J_iload_n (pc' := 40) d_Rs_rank_39 rfl 4 rfl ?_
      obtain ⟨σ10, hq9, hf⟩ := bpE hf
      refine J_V (pc' := 43) (as := [.int r8, .int v3]) (rest := []) (st' := []) d_Rs_rank_40 rfl sh_5 rfl mv_Rs_89 (ct_Rs_give V _ σ r8 v3 hq9) rfl rfl ⟨Nat.le_of_ble_eq_true rfl, Nat.le_of_ble_eq_true rfl⟩ ⟨rfl, rfl⟩ (Nat.le_of_ble_eq_true rfl) rfl ?_
      refine J_iinc (pc' := 46) (j := 4) (v := 1) (lv' := [(3, .int (v3 + 1)), (2, .int (v2 ||| (1 <<< (r8 &&& 31)))), (4, .int r8), (0, rf V 5), (1, rf V v1)]) d_Rs_rank_43 rfl rfl ic_1 (by decide) rfl ?_
      refine J_goto (tgt := 14) d_Rs_rank_46 (by decide) ?_
      refine J_pick [3, 4, 1, 0] rfl ?_
      exact ih _ _ _ _ iv1 hf
def f_Rs_rank (σ : Sg) (v1 : Nat) : Option Sg :=
  if (σ.1 5 5) = (-1) then f_Rs_rank_14 FU σ v1 0 0 else f_Rs_rank_49 σ 0 0
set_option maxHeartbeats 4000000 in
theorem j_Rs_rank {V : Vx} {X : Xx} {σ' : Sg} (σ : Sg) (v1 : Nat) (iv1 : is_Te v1) (hf : f_Rs_rank σ v1 = some σ') : J V X (k2_rm 3 65) c_Rs_rank R_Rs 5 none (Qr V X none σ') σ 0 [(0, rf V 5), (1, rf V v1)] [] := by
  unfold f_Rs_rank at hf
  refine J_iconst (pc' := 1) (v := 0) d_Rs_rank_0 rfl ic_0 ?_
  refine J_istore_n (pc' := 2) (lv' := [(2, .int 0), (0, rf V 5), (1, rf V v1)]) d_Rs_rank_1 rfl rfl (by decide) rfl ?_
  refine J_iconst (pc' := 3) (v := 0) d_Rs_rank_2 rfl ic_0 ?_
  refine J_istore_n (pc' := 4) (lv' := [(3, .int 0), (2, .int 0), (0, rf V 5), (1, rf V v1)]) d_Rs_rank_3 rfl rfl (by decide) rfl ?_
  refine J_aload_n (pc' := 5) d_Rs_rank_4 rfl 2 rfl ?_
  refine J_getI (pc' := 8) d_Rs_rank_5 rfl sh_5 fl_Rs_30 rfl ?_
  refine J_iconst (pc' := 9) (v := (-1)) d_Rs_rank_8 rfl ic_m1 ?_
  refine J_icmp_ne (pc' := 12) (tgt := 49) d_Rs_rank_9 rfl (by decide) (fun hc1 => ?_) (fun hc1 => ?_)
  · have hf := brF hc1 hf
    refine J_pick [2, 1, 0] rfl ?_
    exact j_Rs_rank_49 _ _ _ hf
  · have hf := brT hc1 hf
    refine J_iconst (pc' := 13) (v := 0) d_Rs_rank_12 rfl ic_0 ?_
    refine J_istore_n (pc' := 14) (lv' := [(3, .int 0), (2, .int 0), (0, rf V 5), (1, rf V v1)]) d_Rs_rank_13 rfl rfl (by decide) rfl ?_
    refine J_pick [2, 3, 1, 0] rfl ?_
    exact j_Rs_rank_14 FU _ _ _ _ iv1 hf
theorem ct_Rs_rank (V : Vx) (l : Launch) (σ : Sg) (v1 : Nat) (iv1 : is_Te v1) {σ' : Sg} (hf : f_Rs_rank σ v1 = some σ') : Ct V l y_Rs_rank c_Rs_rank 5 none (k2_rm 3 65) [rf V 5, rf V v1] σ none σ' := Ct.ofJ (by decide +kernel) (Nat.le_of_ble_eq_true rfl) fun X _ => j_Rs_rank _ v1 iv1 hf
def f_Rs_learn_31 (σ : Sg) (v2 : Nat) (s0 : Int32) : Option Sg :=
  (f_Rs_faultOfRight (pI σ 5 3 s0) v2).bind fun r6 =>
    (f_Rs_rank (pI (pI σ 5 3 s0) 5 5 r6) v2).bind fun σ8 =>
      some σ8
set_option maxHeartbeats 4000000 in
theorem j_Rs_learn_31 {V : Vx} {X : Xx} {σ' : Sg}  (σ : Sg) (v2 : Nat) (s0 : Int32) (iv2 : is_Te v2) (hf : f_Rs_learn_31 σ v2 s0 = some σ') : J V X (k2_rm 4 89) c_Rs_learn R_Rs 3 none (Qr V X none σ') σ 31 [(0, rf V 5), (2, rf V v2)] [.int s0, rf V 5] := by
  unfold f_Rs_learn_31 at hf
  refine J_putI (pc' := 34) d_Rs_learn_31 rfl sh_5 fp_Rs_33 rfl ?_
  refine J_aload_n (pc' := 35) d_Rs_learn_34 rfl 0 rfl ?_
  refine J_aload_n (pc' := 36) d_Rs_learn_35 rfl 0 rfl ?_
  refine J_aload_n (pc' := 37) d_Rs_learn_36 rfl 1 rfl ?_
  obtain ⟨r6, hq5, hf⟩ := bpE hf
  refine J_V (pc' := 40) (as := [rf V v2]) (rest := [rf V 5]) (st' := [.int r6, rf V 5]) d_Rs_learn_37 rfl sh_5 rfl mv_Rs_65 (ct_Rs_faultOfRight V _ (pI σ 5 3 s0) v2 iv2 hq5) rfl rfl ⟨Nat.le_of_ble_eq_true rfl, Nat.le_of_ble_eq_true rfl⟩ ⟨rfl, rfl⟩ (Nat.le_of_ble_eq_true rfl) rfl ?_
  refine J_putI (pc' := 43) d_Rs_learn_40 rfl sh_5 fp_Rs_30 rfl ?_
  refine J_aload_n (pc' := 44) d_Rs_learn_43 rfl 0 rfl ?_
  refine J_aload_n (pc' := 45) d_Rs_learn_44 rfl 1 rfl ?_
  obtain ⟨σ8, hq7, hf⟩ := bpE hf
  refine J_V (pc' := 48) (as := [rf V v2]) (rest := []) (st' := []) d_Rs_learn_45 rfl sh_5 rfl mv_Rs_68 (ct_Rs_rank V _ (pI (pI σ 5 3 s0) 5 5 r6) v2 iv2 hq7) rfl rfl ⟨Nat.le_of_ble_eq_true rfl, Nat.le_of_ble_eq_true rfl⟩ ⟨rfl, rfl⟩ (Nat.le_of_ble_eq_true rfl) rfl ?_
  obtain rfl := Option.some.inj hf
  exact J_vret d_Rs_learn_48
def f_Rs_learn (σ : Sg) (v1 : Nat) (v2 : Nat) : Option Sg :=
  bd (f_Rs_learnRopes σ v1) fun r3 σ2 =>
    if ((pI σ2 5 4 r3).1 5 4) = (-1) then f_Rs_learn_31 (pI σ2 5 4 r3) v2 ((((pI σ2 5 4 r3).1 v1 2) + 1) / 7) else f_Rs_learn_31 (pI σ2 5 4 r3) v2 0
set_option maxHeartbeats 4000000 in
theorem j_Rs_learn {V : Vx} {X : Xx} {σ' : Sg} (σ : Sg) (v1 : Nat) (v2 : Nat) (iv1 : is_Te v1) (iv2 : is_Te v2) (hf : f_Rs_learn σ v1 v2 = some σ') : J V X (k2_rm 4 89) c_Rs_learn R_Rs 3 none (Qr V X none σ') σ 0 [(0, rf V 5), (1, rf V v1), (2, rf V v2)] [] := by
  unfold f_Rs_learn at hf
  refine J_aload_n (pc' := 1) d_Rs_learn_0 rfl 0 rfl ?_
  refine J_aload_n (pc' := 2) d_Rs_learn_1 rfl 0 rfl ?_
  refine J_aload_n (pc' := 3) d_Rs_learn_2 rfl 1 rfl ?_
  obtain ⟨r3, σ2, hq1, hf⟩ := bdE hf
  refine J_V (pc' := 6) (as := [rf V v1]) (rest := [rf V 5]) (st' := [.int r3, rf V 5]) d_Rs_learn_3 rfl sh_5 rfl mv_Rs_56 (ct_Rs_learnRopes V _ σ v1 iv1 hq1) rfl rfl ⟨Nat.le_of_ble_eq_true rfl, Nat.le_of_ble_eq_true rfl⟩ ⟨rfl, rfl⟩ (Nat.le_of_ble_eq_true rfl) rfl ?_
  refine J_putI (pc' := 9) d_Rs_learn_6 rfl sh_5 fp_Rs_26 rfl ?_
  refine J_aload_n (pc' := 10) d_Rs_learn_9 rfl 0 rfl ?_
  refine J_aload_n (pc' := 11) d_Rs_learn_10 rfl 0 rfl ?_
  refine J_getI (pc' := 14) d_Rs_learn_11 rfl sh_5 fl_Rs_26 rfl ?_
  refine J_iconst (pc' := 15) (v := (-1)) d_Rs_learn_14 rfl ic_m1 ?_
  refine J_icmp_ne (pc' := 18) (tgt := 30) d_Rs_learn_15 rfl (by decide) (fun hc4 => ?_) (fun hc4 => ?_)
  · have hf := brF hc4 hf
    refine J_iconst (pc' := 31) (v := 0) d_Rs_learn_30 rfl ic_0 ?_
    refine J_pick [0, 2] rfl ?_
    exact j_Rs_learn_31 _ _ _ iv2 hf
  · have hf := brT hc4 hf
    refine J_aload_n (pc' := 19) d_Rs_learn_18 rfl 1 rfl ?_
    refine J_getI (pc' := 22) d_Rs_learn_19 rfl (sh_Te iv1) fl_Rs_60 rfl ?_
    refine J_iconst (pc' := 23) (v := 1) d_Rs_learn_22 rfl ic_1 ?_
    refine J_iadd (pc' := 24) d_Rs_learn_23 rfl ?_
    refine J_bipush (pc' := 26) (v := 7) d_Rs_learn_24 rfl bc_7 ?_
    refine J_idiv (pc' := 27) d_Rs_learn_26 rfl (by decide) ?_
    refine J_goto (tgt := 31) d_Rs_learn_27 (by decide) ?_
    refine J_pick [0, 2] rfl ?_
    exact j_Rs_learn_31 _ _ _ iv2 hf
theorem ct_Rs_learn (V : Vx) (l : Launch) (σ : Sg) (v1 : Nat) (v2 : Nat) (iv1 : is_Te v1) (iv2 : is_Te v2) {σ' : Sg} (hf : f_Rs_learn σ v1 v2 = some σ') : Ct V l y_Rs_learn c_Rs_learn 3 none (k2_rm 4 89) [rf V 5, rf V v1, rf V v2] σ none σ' := Ct.ofJ (by decide +kernel) (Nat.le_of_ble_eq_true rfl) fun X _ => j_Rs_learn _ v1 v2 iv1 iv2 hf
def f_GR_type (σ : Sg) (v1 : Int32) (v2 : Int32) : Option (Int32 × Sg) :=
  if (f_GR_isBelow v1 2) = 0 then
    some ((-2), σ)
  else
    if (f_GR_isBelow v2 256) = 0 then
      some ((-2), σ)
    else
      if (f_Te_isFull σ (f_GR_textOf v1)) = 0 then
        (f_Te_append σ (f_GR_textOf v1) v2).bind fun σ5 =>
          (f_Rs_learn σ5 1 3).bind fun σ7 =>
            some (σ7.1 (f_GR_textOf v1) 2, σ7)
      else
        some ((-4), σ)
set_option maxHeartbeats 4000000 in
theorem j_GR_type {V : Vx} {X : Xx} {r : Int32} {σ' : Sg} (σ : Sg) (v1 : Int32) (v2 : Int32) (hf : f_GR_type σ v1 v2 = some (r, σ')) : J V X (k2_rm 5 111) c_GR_type R_GR 4 (some .int) (Qr V X (some (.int r)) σ') σ 0 [(0, rf V 0), (1, .int v1), (2, .int v2)] [] := by
  unfold f_GR_type at hf
  refine J_iload_n (pc' := 1) d_GR_type_0 rfl 1 rfl ?_
  refine J_iconst (pc' := 2) (v := 2) d_GR_type_1 rfl ic_2 ?_
  refine J_S (pc' := 5) (as := [.int v1, .int 2]) (rest := []) (st' := [.int (f_GR_isBelow v1 2)]) d_GR_type_2 rfl ms_GR_67 (ct_GR_isBelow V _ σ v1 2) rfl rfl ⟨Nat.le_of_ble_eq_true rfl, Nat.le_of_ble_eq_true rfl⟩ ⟨rfl, rfl⟩ (Nat.le_of_ble_eq_true rfl) rfl ?_
  refine J_if_eq (pc' := 8) (tgt := 18) d_GR_type_5 rfl (by decide) (fun hc1 => ?_) (fun hc1 => ?_)
  · have hf := brT hc1 hf
    refine J_bipush (pc' := 20) (v := (-2)) d_GR_type_18 rfl bc_m2 ?_
    obtain ⟨rfl, rfl⟩ := resE hf
    exact J_iret d_GR_type_20
  · have hf := brF hc1 hf
    refine J_iload_n (pc' := 9) d_GR_type_8 rfl 2 rfl ?_
    refine J_sipush (pc' := 12) (v := 256) d_GR_type_9 rfl sc_256 ?_
    refine J_S (pc' := 15) (as := [.int v2, .int 256]) (rest := []) (st' := [.int (f_GR_isBelow v2 256)]) d_GR_type_12 rfl ms_GR_67 (ct_GR_isBelow V _ σ v2 256) rfl rfl ⟨Nat.le_of_ble_eq_true rfl, Nat.le_of_ble_eq_true rfl⟩ ⟨rfl, rfl⟩ (Nat.le_of_ble_eq_true rfl) rfl ?_
    refine J_if_ne (pc' := 18) (tgt := 21) d_GR_type_15 rfl (by decide) (fun hc2 => ?_) (fun hc2 => ?_)
    · have hf := brF hc2 hf
      refine J_aload_n (pc' := 22) d_GR_type_21 rfl 0 rfl ?_
      refine J_iload_n (pc' := 23) d_GR_type_22 rfl 1 rfl ?_
      refine J_V (pc' := 26) (as := [.int v1]) (rest := []) (st' := [rf V (f_GR_textOf v1)]) d_GR_type_23 rfl sh_0 rfl mv_GR_71 (ct_GR_textOf V _ σ v1) rfl rfl ⟨Nat.le_of_ble_eq_true rfl, Nat.le_of_ble_eq_true rfl⟩ ⟨rfl, rfl⟩ (Nat.le_of_ble_eq_true rfl) rfl ?_
      refine J_astore_n (pc' := 27) (lv' := [(3, rf V (f_GR_textOf v1)), (0, rf V 0), (1, .int v1), (2, .int v2)]) d_GR_type_26 rfl rfl (by decide) rfl ?_
      refine J_aload_n (pc' := 28) d_GR_type_27 rfl 0 rfl ?_
      refine J_V (pc' := 31) (as := []) (rest := []) (st' := [.int (f_Te_isFull σ (f_GR_textOf v1))]) d_GR_type_28 rfl (sh_Te (is_GR_textOf v1)) rfl mv_GR_75 (ct_Te_isFull V _ σ (f_GR_textOf v1) (is_GR_textOf v1)) rfl rfl ⟨Nat.le_of_ble_eq_true rfl, Nat.le_of_ble_eq_true rfl⟩ ⟨rfl, rfl⟩ (Nat.le_of_ble_eq_true rfl) rfl ?_
      refine J_if_eq (pc' := 34) (tgt := 37) d_GR_type_31 rfl (by decide) (fun hc3 => ?_) (fun hc3 => ?_)
      · have hf := brT hc3 hf
        refine J_aload_n (pc' := 38) d_GR_type_37 rfl 0 rfl ?_
        refine J_iload_n (pc' := 39) d_GR_type_38 rfl 3 rfl ?_
        obtain ⟨σ5, hq4, hf⟩ := bpE hf
        refine J_V (pc' := 42) (as := [.int v2]) (rest := []) (st' := []) d_GR_type_39 rfl (sh_Te (is_GR_textOf v1)) rfl mv_GR_79 (ct_Te_append V _ σ (f_GR_textOf v1) v2 (is_GR_textOf v1) hq4) rfl rfl ⟨Nat.le_of_ble_eq_true rfl, Nat.le_of_ble_eq_true rfl⟩ ⟨rfl, rfl⟩ (Nat.le_of_ble_eq_true rfl) rfl ?_
        refine J_aload_n (pc' := 43) d_GR_type_42 rfl 1 rfl ?_
        refine J_getR (pc' := 46) d_GR_type_43 rfl sh_0 fl_GR_24 rfl ?_
        refine J_aload_n (pc' := 47) d_GR_type_46 rfl 1 rfl ?_
        refine J_getR (pc' := 50) d_GR_type_47 rfl sh_0 fl_GR_14 rfl ?_
        refine J_aload_n (pc' := 51) d_GR_type_50 rfl 1 rfl ?_
        refine J_getR (pc' := 54) d_GR_type_51 rfl sh_0 fl_GR_18 rfl ?_
        obtain ⟨σ7, hq6, hf⟩ := bpE hf
        refine J_V (pc' := 57) (as := [rf V 1, rf V 3]) (rest := []) (st' := []) d_GR_type_54 rfl sh_5 rfl mv_GR_82 (ct_Rs_learn V _ σ5 1 3 (isTe_1) (isTe_3) hq6) rfl rfl ⟨Nat.le_of_ble_eq_true rfl, Nat.le_of_ble_eq_true rfl⟩ ⟨rfl, rfl⟩ (Nat.le_of_ble_eq_true rfl) rfl ?_
        refine J_aload_n (pc' := 58) d_GR_type_57 rfl 0 rfl ?_
        refine J_getI (pc' := 61) d_GR_type_58 rfl (sh_Te (is_GR_textOf v1)) fl_GR_86 rfl ?_
        obtain ⟨rfl, rfl⟩ := resE hf
        exact J_iret d_GR_type_61
      · have hf := brF hc3 hf
        refine J_bipush (pc' := 36) (v := (-4)) d_GR_type_34 rfl bc_m4 ?_
        obtain ⟨rfl, rfl⟩ := resE hf
        exact J_iret d_GR_type_36
    · have hf := brT hc2 hf
      refine J_bipush (pc' := 20) (v := (-2)) d_GR_type_18 rfl bc_m2 ?_
      obtain ⟨rfl, rfl⟩ := resE hf
      exact J_iret d_GR_type_20
theorem ct_GR_type (V : Vx) (l : Launch) (σ : Sg) (v1 : Int32) (v2 : Int32) {r : Int32} {σ' : Sg} (hf : f_GR_type σ v1 v2 = some (r, σ')) : Ct V l y_GR_type c_GR_type 4 (some .int) (k2_rm 5 111) [rf V 0, .int v1, .int v2] σ (some (.int r)) σ' := Ct.ofJ (by decide +kernel) (Nat.le_of_ble_eq_true rfl) fun X _ => j_GR_type _ v1 v2 hf
def f_Te_drop (σ : Sg) (v0 : Nat) : Option (Int32 × Sg) :=
  some (σ.1 v0 2, (pI σ v0 2 0))
set_option maxHeartbeats 4000000 in
theorem j_Te_drop {V : Vx} {X : Xx} {r : Int32} {σ' : Sg} (σ : Sg) (v0 : Nat) (iv0 : is_Te v0) (hf : f_Te_drop σ v0 = some (r, σ')) : J V X (k2_rm 0 0) c_Te_drop R_Te 2 (some .int) (Qr V X (some (.int r)) σ') σ 0 [(0, rf V v0)] [] := by
  unfold f_Te_drop at hf
  refine J_aload_n (pc' := 1) d_Te_drop_0 rfl 0 rfl ?_
  refine J_getI (pc' := 4) d_Te_drop_1 rfl (sh_Te iv0) fl_Te_25 rfl ?_
  refine J_istore_n (pc' := 5) (lv' := [(1, .int (σ.1 v0 2)), (0, rf V v0)]) d_Te_drop_4 rfl rfl (by decide) rfl ?_
  refine J_aload_n (pc' := 6) d_Te_drop_5 rfl 1 rfl ?_
  refine J_iconst (pc' := 7) (v := 0) d_Te_drop_6 rfl ic_0 ?_
  refine J_putI (pc' := 10) d_Te_drop_7 rfl (sh_Te iv0) fp_Te_25 rfl ?_
  refine J_iload_n (pc' := 11) d_Te_drop_10 rfl 0 rfl ?_
  obtain ⟨rfl, rfl⟩ := resE hf
  exact J_iret d_Te_drop_11
theorem ct_Te_drop (V : Vx) (l : Launch) (σ : Sg) (v0 : Nat) (iv0 : is_Te v0) {r : Int32} {σ' : Sg} (hf : f_Te_drop σ v0 = some (r, σ')) : Ct V l y_Te_drop c_Te_drop 2 (some .int) (k2_rm 0 0) [rf V v0] σ (some (.int r)) σ' := Ct.ofJ (by decide +kernel) (Nat.le_of_ble_eq_true rfl) fun X _ => j_Te_drop _ v0 iv0 hf
def f_GR_wipe (σ : Sg) (v1 : Int32) : Option (Int32 × Sg) :=
  if (f_GR_isBelow v1 2) = 0 then
    some ((-2), σ)
  else
    bd (f_Te_drop σ (f_GR_textOf v1)) fun r4 σ3 =>
      (f_Rs_learn σ3 1 3).bind fun σ6 =>
        some (r4, σ6)
set_option maxHeartbeats 4000000 in
theorem j_GR_wipe {V : Vx} {X : Xx} {r : Int32} {σ' : Sg} (σ : Sg) (v1 : Int32) (hf : f_GR_wipe σ v1 = some (r, σ')) : J V X (k2_rm 5 111) c_GR_wipe R_GR 4 (some .int) (Qr V X (some (.int r)) σ') σ 0 [(0, rf V 0), (1, .int v1)] [] := by
  unfold f_GR_wipe at hf
  refine J_iload_n (pc' := 1) d_GR_wipe_0 rfl 1 rfl ?_
  refine J_iconst (pc' := 2) (v := 2) d_GR_wipe_1 rfl ic_2 ?_
  refine J_S (pc' := 5) (as := [.int v1, .int 2]) (rest := []) (st' := [.int (f_GR_isBelow v1 2)]) d_GR_wipe_2 rfl ms_GR_67 (ct_GR_isBelow V _ σ v1 2) rfl rfl ⟨Nat.le_of_ble_eq_true rfl, Nat.le_of_ble_eq_true rfl⟩ ⟨rfl, rfl⟩ (Nat.le_of_ble_eq_true rfl) rfl ?_
  refine J_if_ne (pc' := 8) (tgt := 11) d_GR_wipe_5 rfl (by decide) (fun hc1 => ?_) (fun hc1 => ?_)
  · have hf := brF hc1 hf
    refine J_aload_n (pc' := 12) d_GR_wipe_11 rfl 0 rfl ?_
    refine J_iload_n (pc' := 13) d_GR_wipe_12 rfl 1 rfl ?_
    refine J_V (pc' := 16) (as := [.int v1]) (rest := []) (st' := [rf V (f_GR_textOf v1)]) d_GR_wipe_13 rfl sh_0 rfl mv_GR_71 (ct_GR_textOf V _ σ v1) rfl rfl ⟨Nat.le_of_ble_eq_true rfl, Nat.le_of_ble_eq_true rfl⟩ ⟨rfl, rfl⟩ (Nat.le_of_ble_eq_true rfl) rfl ?_
    refine J_astore_n (pc' := 17) (lv' := [(2, rf V (f_GR_textOf v1)), (0, rf V 0), (1, .int v1)]) d_GR_wipe_16 rfl rfl (by decide) rfl ?_
    refine J_aload_n (pc' := 18) d_GR_wipe_17 rfl 0 rfl ?_
    obtain ⟨r4, σ3, hq2, hf⟩ := bdE hf
    refine J_V (pc' := 21) (as := []) (rest := []) (st' := [.int r4]) d_GR_wipe_18 rfl (sh_Te (is_GR_textOf v1)) rfl mv_GR_90 (ct_Te_drop V _ σ (f_GR_textOf v1) (is_GR_textOf v1) hq2) rfl rfl ⟨Nat.le_of_ble_eq_true rfl, Nat.le_of_ble_eq_true rfl⟩ ⟨rfl, rfl⟩ (Nat.le_of_ble_eq_true rfl) rfl ?_
    refine J_istore_n (pc' := 22) (lv' := [(3, .int r4), (2, rf V (f_GR_textOf v1)), (0, rf V 0), (1, .int v1)]) d_GR_wipe_21 rfl rfl (by decide) rfl ?_
    refine J_aload_n (pc' := 23) d_GR_wipe_22 rfl 2 rfl ?_
    refine J_getR (pc' := 26) d_GR_wipe_23 rfl sh_0 fl_GR_24 rfl ?_
    refine J_aload_n (pc' := 27) d_GR_wipe_26 rfl 2 rfl ?_
    refine J_getR (pc' := 30) d_GR_wipe_27 rfl sh_0 fl_GR_14 rfl ?_
    refine J_aload_n (pc' := 31) d_GR_wipe_30 rfl 2 rfl ?_
    refine J_getR (pc' := 34) d_GR_wipe_31 rfl sh_0 fl_GR_18 rfl ?_
    obtain ⟨σ6, hq5, hf⟩ := bpE hf
    refine J_V (pc' := 37) (as := [rf V 1, rf V 3]) (rest := []) (st' := []) d_GR_wipe_34 rfl sh_5 rfl mv_GR_82 (ct_Rs_learn V _ σ3 1 3 (isTe_1) (isTe_3) hq5) rfl rfl ⟨Nat.le_of_ble_eq_true rfl, Nat.le_of_ble_eq_true rfl⟩ ⟨rfl, rfl⟩ (Nat.le_of_ble_eq_true rfl) rfl ?_
    refine J_iload_n (pc' := 38) d_GR_wipe_37 rfl 0 rfl ?_
    obtain ⟨rfl, rfl⟩ := resE hf
    exact J_iret d_GR_wipe_38
  · have hf := brT hc1 hf
    refine J_bipush (pc' := 10) (v := (-2)) d_GR_wipe_8 rfl bc_m2 ?_
    obtain ⟨rfl, rfl⟩ := resE hf
    exact J_iret d_GR_wipe_10
theorem ct_GR_wipe (V : Vx) (l : Launch) (σ : Sg) (v1 : Int32) {r : Int32} {σ' : Sg} (hf : f_GR_wipe σ v1 = some (r, σ')) : Ct V l y_GR_wipe c_GR_wipe 4 (some .int) (k2_rm 5 111) [rf V 0, .int v1] σ (some (.int r)) σ' := Ct.ofJ (by decide +kernel) (Nat.le_of_ble_eq_true rfl) fun X _ => j_GR_wipe _ v1 hf
def f_GR_fault (σ : Sg) (v1 : Int32) : Int32 :=
  if (f_GR_isBelow v1 2) = 0 then (-2) else if v1 = 0 then σ.1 5 4 else σ.1 5 5
set_option maxHeartbeats 4000000 in
theorem j_GR_fault {V : Vx} {X : Xx} {r : Int32} (σ : Sg) (v1 : Int32) (hf : f_GR_fault σ v1 = r) : J V X (k2_rm 1 21) c_GR_fault R_GR 2 (some .int) (Qr V X (some (.int r)) σ) σ 0 [(0, rf V 0), (1, .int v1)] [] := by
  unfold f_GR_fault at hf
  refine J_iload_n (pc' := 1) d_GR_fault_0 rfl 1 rfl ?_
  refine J_iconst (pc' := 2) (v := 2) d_GR_fault_1 rfl ic_2 ?_
  refine J_S (pc' := 5) (as := [.int v1, .int 2]) (rest := []) (st' := [.int (f_GR_isBelow v1 2)]) d_GR_fault_2 rfl ms_GR_67 (ct_GR_isBelow V _ σ v1 2) rfl rfl ⟨Nat.le_of_ble_eq_true rfl, Nat.le_of_ble_eq_true rfl⟩ ⟨rfl, rfl⟩ (Nat.le_of_ble_eq_true rfl) rfl ?_
  refine J_if_ne (pc' := 8) (tgt := 11) d_GR_fault_5 rfl (by decide) (fun hc1 => ?_) (fun hc1 => ?_)
  · have hf := brF hc1 hf
    refine J_iload_n (pc' := 12) d_GR_fault_11 rfl 1 rfl ?_
    refine J_if_ne (pc' := 15) (tgt := 25) d_GR_fault_12 rfl (by decide) (fun hc2 => ?_) (fun hc2 => ?_)
    · have hf := brF hc2 hf
      refine J_aload_n (pc' := 26) d_GR_fault_25 rfl 0 rfl ?_
      refine J_getR (pc' := 29) d_GR_fault_26 rfl sh_0 fl_GR_24 rfl ?_
      refine J_getI (pc' := 32) d_GR_fault_29 rfl sh_5 fl_GR_97 rfl ?_
      subst hf
      exact J_iret d_GR_fault_32
    · have hf := brT hc2 hf
      refine J_aload_n (pc' := 16) d_GR_fault_15 rfl 0 rfl ?_
      refine J_getR (pc' := 19) d_GR_fault_16 rfl sh_0 fl_GR_24 rfl ?_
      refine J_getI (pc' := 22) d_GR_fault_19 rfl sh_5 fl_GR_94 rfl ?_
      refine J_goto (tgt := 32) d_GR_fault_22 (by decide) ?_
      subst hf
      exact J_iret d_GR_fault_32
  · have hf := brT hc1 hf
    refine J_bipush (pc' := 10) (v := (-2)) d_GR_fault_8 rfl bc_m2 ?_
    subst hf
    exact J_iret d_GR_fault_10
theorem ct_GR_fault (V : Vx) (l : Launch) (σ : Sg) (v1 : Int32) : Ct V l y_GR_fault c_GR_fault 2 (some .int) (k2_rm 1 21) [rf V 0, .int v1] σ (some (.int (f_GR_fault σ v1))) σ := Ct.ofJ (by decide +kernel) (Nat.le_of_ble_eq_true rfl) fun X _ => j_GR_fault _ v1 rfl
def f_Ro_tell (σ : Sg) (v0 : Nat) (v1 : Int32) : Int32 :=
  if v1 = 0 then σ.1 v0 0 else
  if v1 = 1 then σ.1 v0 1 else
  if v1 = 2 then σ.1 v0 2 else
  if v1 = 3 then σ.1 v0 3 else
  if v1 = 4 then σ.1 v0 4 else
  if v1 = 5 then σ.1 v0 5 else
    σ.1 v0 6
set_option maxHeartbeats 4000000 in
theorem j_Ro_tell {V : Vx} {X : Xx} {r : Int32} (σ : Sg) (v0 : Nat) (v1 : Int32) (iv0 : is_Ro v0) (hf : f_Ro_tell σ v0 v1 = r) : J V X (k2_rm 0 0) c_Ro_tell R_Ro 2 (some .int) (Qr V X (some (.int r)) σ) σ 0 [(0, rf V v0), (1, .int v1)] [] := by
  unfold f_Ro_tell at hf
  refine J_iload_n (pc' := 1) d_Ro_tell_0 rfl 1 rfl ?_
  by_cases hc1 : v1 = 0
  · have hf := brT hc1 hf
    refine J_tsIn (tgt := 40) (off := 39) 0 d_Ro_tell_1 (by rw [hc1]; decide) (by decide) (by decide) rfl (by decide) ?_
    refine J_aload_n (pc' := 41) d_Ro_tell_40 rfl 0 rfl ?_
    refine J_getI (pc' := 44) d_Ro_tell_41 rfl (sh_Ro iv0) fl_Ro_7 rfl ?_
    subst hf
    exact J_iret d_Ro_tell_44
  · have hf := brF hc1 hf
    by_cases hc2 : v1 = 1
    · have hf := brT hc2 hf
      refine J_tsIn (tgt := 45) (off := 44) 1 d_Ro_tell_1 (by rw [hc2]; decide) (by decide) (by decide) rfl (by decide) ?_
      refine J_aload_n (pc' := 46) d_Ro_tell_45 rfl 0 rfl ?_
      refine J_getI (pc' := 49) d_Ro_tell_46 rfl (sh_Ro iv0) fl_Ro_13 rfl ?_
      subst hf
      exact J_iret d_Ro_tell_49
    · have hf := brF hc2 hf
      by_cases hc3 : v1 = 2
      · have hf := brT hc3 hf
        refine J_tsIn (tgt := 50) (off := 49) 2 d_Ro_tell_1 (by rw [hc3]; decide) (by decide) (by decide) rfl (by decide) ?_
        refine J_aload_n (pc' := 51) d_Ro_tell_50 rfl 0 rfl ?_
        refine J_getI (pc' := 54) d_Ro_tell_51 rfl (sh_Ro iv0) fl_Ro_16 rfl ?_
        subst hf
        exact J_iret d_Ro_tell_54
      · have hf := brF hc3 hf
        by_cases hc4 : v1 = 3
        · have hf := brT hc4 hf
          refine J_tsIn (tgt := 55) (off := 54) 3 d_Ro_tell_1 (by rw [hc4]; decide) (by decide) (by decide) rfl (by decide) ?_
          refine J_aload_n (pc' := 56) d_Ro_tell_55 rfl 0 rfl ?_
          refine J_getI (pc' := 59) d_Ro_tell_56 rfl (sh_Ro iv0) fl_Ro_19 rfl ?_
          subst hf
          exact J_iret d_Ro_tell_59
        · have hf := brF hc4 hf
          by_cases hc5 : v1 = 4
          · have hf := brT hc5 hf
            refine J_tsIn (tgt := 60) (off := 59) 4 d_Ro_tell_1 (by rw [hc5]; decide) (by decide) (by decide) rfl (by decide) ?_
            refine J_aload_n (pc' := 61) d_Ro_tell_60 rfl 0 rfl ?_
            refine J_getI (pc' := 64) d_Ro_tell_61 rfl (sh_Ro iv0) fl_Ro_22 rfl ?_
            subst hf
            exact J_iret d_Ro_tell_64
          · have hf := brF hc5 hf
            by_cases hc6 : v1 = 5
            · have hf := brT hc6 hf
              refine J_tsIn (tgt := 65) (off := 64) 5 d_Ro_tell_1 (by rw [hc6]; decide) (by decide) (by decide) rfl (by decide) ?_
              refine J_aload_n (pc' := 66) d_Ro_tell_65 rfl 0 rfl ?_
              refine J_getI (pc' := 69) d_Ro_tell_66 rfl (sh_Ro iv0) fl_Ro_25 rfl ?_
              subst hf
              exact J_iret d_Ro_tell_69
            · have hf := brF hc6 hf
              have ehc1 := neI (z := 0) hc1 (by decide)
              have ehc2 := neI (z := 1) hc2 (by decide)
              have ehc3 := neI (z := 2) hc3 (by decide)
              have ehc4 := neI (z := 3) hc4 (by decide)
              have ehc5 := neI (z := 4) hc5 (by decide)
              have ehc6 := neI (z := 5) hc6 (by decide)
              refine J_tsOut (tgt := 70) d_Ro_tell_1 (by omega) (by decide) ?_
              refine J_aload_n (pc' := 71) d_Ro_tell_70 rfl 0 rfl ?_
              refine J_getI (pc' := 74) d_Ro_tell_71 rfl (sh_Ro iv0) fl_Ro_28 rfl ?_
              subst hf
              exact J_iret d_Ro_tell_74
theorem ct_Ro_tell (V : Vx) (l : Launch) (σ : Sg) (v0 : Nat) (v1 : Int32) (iv0 : is_Ro v0) : Ct V l y_Ro_tell c_Ro_tell 2 (some .int) (k2_rm 0 0) [rf V v0, .int v1] σ (some (.int (f_Ro_tell σ v0 v1))) σ := Ct.ofJ (by decide +kernel) (Nat.le_of_ble_eq_true rfl) fun X _ => j_Ro_tell _ v0 v1 iv0 rfl
def f_GR_rope (σ : Sg) (v1 : Int32) (v2 : Int32) : Int32 :=
  if (f_Rs_has σ v1) = 0 then (-2) else if (f_GR_isBelow v2 7) = 0 then (-2) else f_Ro_tell σ (f_Rs_at v1) v2
set_option maxHeartbeats 4000000 in
theorem j_GR_rope {V : Vx} {X : Xx} {r : Int32} (σ : Sg) (v1 : Int32) (v2 : Int32) (hf : f_GR_rope σ v1 v2 = r) : J V X (k2_rm 2 43) c_GR_rope R_GR 3 (some .int) (Qr V X (some (.int r)) σ) σ 0 [(0, rf V 0), (1, .int v1), (2, .int v2)] [] := by
  unfold f_GR_rope at hf
  refine J_aload_n (pc' := 1) d_GR_rope_0 rfl 0 rfl ?_
  refine J_getR (pc' := 4) d_GR_rope_1 rfl sh_0 fl_GR_24 rfl ?_
  refine J_iload_n (pc' := 5) d_GR_rope_4 rfl 1 rfl ?_
  refine J_V (pc' := 8) (as := [.int v1]) (rest := []) (st' := [.int (f_Rs_has σ v1)]) d_GR_rope_5 rfl sh_5 rfl mv_GR_100 (ct_Rs_has V _ σ v1) rfl rfl ⟨Nat.le_of_ble_eq_true rfl, Nat.le_of_ble_eq_true rfl⟩ ⟨rfl, rfl⟩ (Nat.le_of_ble_eq_true rfl) rfl ?_
  refine J_if_eq (pc' := 11) (tgt := 20) d_GR_rope_8 rfl (by decide) (fun hc1 => ?_) (fun hc1 => ?_)
  · have hf := brT hc1 hf
    refine J_bipush (pc' := 22) (v := (-2)) d_GR_rope_20 rfl bc_m2 ?_
    subst hf
    exact J_iret d_GR_rope_22
  · have hf := brF hc1 hf
    refine J_iload_n (pc' := 12) d_GR_rope_11 rfl 2 rfl ?_
    refine J_bipush (pc' := 14) (v := 7) d_GR_rope_12 rfl bc_7 ?_
    refine J_S (pc' := 17) (as := [.int v2, .int 7]) (rest := []) (st' := [.int (f_GR_isBelow v2 7)]) d_GR_rope_14 rfl ms_GR_67 (ct_GR_isBelow V _ σ v2 7) rfl rfl ⟨Nat.le_of_ble_eq_true rfl, Nat.le_of_ble_eq_true rfl⟩ ⟨rfl, rfl⟩ (Nat.le_of_ble_eq_true rfl) rfl ?_
    refine J_if_ne (pc' := 20) (tgt := 23) d_GR_rope_17 rfl (by decide) (fun hc2 => ?_) (fun hc2 => ?_)
    · have hf := brF hc2 hf
      refine J_aload_n (pc' := 24) d_GR_rope_23 rfl 0 rfl ?_
      refine J_getR (pc' := 27) d_GR_rope_24 rfl sh_0 fl_GR_24 rfl ?_
      refine J_iload_n (pc' := 28) d_GR_rope_27 rfl 1 rfl ?_
      refine J_V (pc' := 31) (as := [.int v1]) (rest := []) (st' := [rf V (f_Rs_at v1)]) d_GR_rope_28 rfl sh_5 rfl mv_GR_104 (ct_Rs_at V _ σ v1) rfl rfl ⟨Nat.le_of_ble_eq_true rfl, Nat.le_of_ble_eq_true rfl⟩ ⟨rfl, rfl⟩ (Nat.le_of_ble_eq_true rfl) rfl ?_
      refine J_iload_n (pc' := 32) d_GR_rope_31 rfl 2 rfl ?_
      refine J_V (pc' := 35) (as := [.int v2]) (rest := []) (st' := [.int (f_Ro_tell σ (f_Rs_at v1) v2)]) d_GR_rope_32 rfl (sh_Ro (is_Rs_at v1)) rfl mv_GR_108 (ct_Ro_tell V _ σ (f_Rs_at v1) v2 (is_Rs_at v1)) rfl rfl ⟨Nat.le_of_ble_eq_true rfl, Nat.le_of_ble_eq_true rfl⟩ ⟨rfl, rfl⟩ (Nat.le_of_ble_eq_true rfl) rfl ?_
      subst hf
      exact J_iret d_GR_rope_35
    · have hf := brT hc2 hf
      refine J_bipush (pc' := 22) (v := (-2)) d_GR_rope_20 rfl bc_m2 ?_
      subst hf
      exact J_iret d_GR_rope_22
theorem ct_GR_rope (V : Vx) (l : Launch) (σ : Sg) (v1 : Int32) (v2 : Int32) : Ct V l y_GR_rope c_GR_rope 3 (some .int) (k2_rm 2 43) [rf V 0, .int v1, .int v2] σ (some (.int (f_GR_rope σ v1 v2))) σ := Ct.ofJ (by decide +kernel) (Nat.le_of_ble_eq_true rfl) fun X _ => j_GR_rope _ v1 v2 rfl
def f_Rs_hasTwo (σ : Sg) (v1 : Int32) (v2 : Int32) : Int32 :=
  if (f_Rs_has σ v1) = 0 then 0 else if (f_Rs_has σ v2) = 0 then 0 else if v1 = v2 then 0 else 1
set_option maxHeartbeats 4000000 in
theorem j_Rs_hasTwo {V : Vx} {X : Xx} {r : Int32} (σ : Sg) (v1 : Int32) (v2 : Int32) (hf : f_Rs_hasTwo σ v1 v2 = r) : J V X (k2_rm 2 42) c_Rs_hasTwo R_Rs 3 (some .boolean) (Qr V X (some (.int r)) σ) σ 0 [(0, rf V 5), (1, .int v1), (2, .int v2)] [] := by
  unfold f_Rs_hasTwo at hf
  refine J_aload_n (pc' := 1) d_Rs_hasTwo_0 rfl 0 rfl ?_
  refine J_iload_n (pc' := 2) d_Rs_hasTwo_1 rfl 1 rfl ?_
  refine J_V (pc' := 5) (as := [.int v1]) (rest := []) (st' := [.int (f_Rs_has σ v1)]) d_Rs_hasTwo_2 rfl sh_5 rfl mv_Rs_40 (ct_Rs_has V _ σ v1) rfl rfl ⟨Nat.le_of_ble_eq_true rfl, Nat.le_of_ble_eq_true rfl⟩ ⟨rfl, rfl⟩ (Nat.le_of_ble_eq_true rfl) rfl ?_
  refine J_if_eq (pc' := 8) (tgt := 25) d_Rs_hasTwo_5 rfl (by decide) (fun hc1 => ?_) (fun hc1 => ?_)
  · have hf := brT hc1 hf
    refine J_iconst (pc' := 26) (v := 0) d_Rs_hasTwo_25 rfl ic_0 ?_
    subst hf
    exact J_zret (by decide) d_Rs_hasTwo_26
  · have hf := brF hc1 hf
    refine J_aload_n (pc' := 9) d_Rs_hasTwo_8 rfl 0 rfl ?_
    refine J_iload_n (pc' := 10) d_Rs_hasTwo_9 rfl 2 rfl ?_
    refine J_V (pc' := 13) (as := [.int v2]) (rest := []) (st' := [.int (f_Rs_has σ v2)]) d_Rs_hasTwo_10 rfl sh_5 rfl mv_Rs_40 (ct_Rs_has V _ σ v2) rfl rfl ⟨Nat.le_of_ble_eq_true rfl, Nat.le_of_ble_eq_true rfl⟩ ⟨rfl, rfl⟩ (Nat.le_of_ble_eq_true rfl) rfl ?_
    refine J_if_eq (pc' := 16) (tgt := 25) d_Rs_hasTwo_13 rfl (by decide) (fun hc2 => ?_) (fun hc2 => ?_)
    · have hf := brT hc2 hf
      refine J_iconst (pc' := 26) (v := 0) d_Rs_hasTwo_25 rfl ic_0 ?_
      subst hf
      exact J_zret (by decide) d_Rs_hasTwo_26
    · have hf := brF hc2 hf
      refine J_iload_n (pc' := 17) d_Rs_hasTwo_16 rfl 1 rfl ?_
      refine J_iload_n (pc' := 18) d_Rs_hasTwo_17 rfl 2 rfl ?_
      refine J_icmp_eq (pc' := 21) (tgt := 25) d_Rs_hasTwo_18 rfl (by decide) (fun hc3 => ?_) (fun hc3 => ?_)
      · have hf := brT hc3 hf
        refine J_iconst (pc' := 26) (v := 0) d_Rs_hasTwo_25 rfl ic_0 ?_
        subst hf
        exact J_zret (by decide) d_Rs_hasTwo_26
      · have hf := brF hc3 hf
        refine J_iconst (pc' := 22) (v := 1) d_Rs_hasTwo_21 rfl ic_1 ?_
        refine J_goto (tgt := 26) d_Rs_hasTwo_22 (by decide) ?_
        subst hf
        exact J_zret (by decide) d_Rs_hasTwo_26
theorem ct_Rs_hasTwo (V : Vx) (l : Launch) (σ : Sg) (v1 : Int32) (v2 : Int32) : Ct V l y_Rs_hasTwo c_Rs_hasTwo 3 (some .boolean) (k2_rm 2 42) [rf V 5, .int v1, .int v2] σ (some (.int (f_Rs_hasTwo σ v1 v2))) σ := Ct.ofJ (by decide +kernel) (Nat.le_of_ble_eq_true rfl) fun X _ => j_Rs_hasTwo _ v1 v2 rfl
def f_Ro_meets (σ : Sg) (v0 : Nat) (v1 : Nat) : Int32 :=
  if 0 ≤ (((σ.1 v0 0) - (σ.1 v1 0)) * ((σ.1 v0 1) - (σ.1 v1 1))) then 0 else 1
set_option maxHeartbeats 4000000 in
theorem j_Ro_meets {V : Vx} {X : Xx} {r : Int32} (σ : Sg) (v0 : Nat) (v1 : Nat) (iv0 : is_Ro v0) (iv1 : is_Ro v1) (hf : f_Ro_meets σ v0 v1 = r) : J V X (k2_rm 0 0) c_Ro_meets R_Ro 2 (some .boolean) (Qr V X (some (.int r)) σ) σ 0 [(0, rf V v0), (1, rf V v1)] [] := by
  unfold f_Ro_meets at hf
  refine J_aload_n (pc' := 1) d_Ro_meets_0 rfl 0 rfl ?_
  refine J_getI (pc' := 4) d_Ro_meets_1 rfl (sh_Ro iv0) fl_Ro_7 rfl ?_
  refine J_aload_n (pc' := 5) d_Ro_meets_4 rfl 1 rfl ?_
  refine J_getI (pc' := 8) d_Ro_meets_5 rfl (sh_Ro iv1) fl_Ro_7 rfl ?_
  refine J_isub (pc' := 9) d_Ro_meets_8 rfl ?_
  refine J_aload_n (pc' := 10) d_Ro_meets_9 rfl 0 rfl ?_
  refine J_getI (pc' := 13) d_Ro_meets_10 rfl (sh_Ro iv0) fl_Ro_13 rfl ?_
  refine J_aload_n (pc' := 14) d_Ro_meets_13 rfl 1 rfl ?_
  refine J_getI (pc' := 17) d_Ro_meets_14 rfl (sh_Ro iv1) fl_Ro_13 rfl ?_
  refine J_isub (pc' := 18) d_Ro_meets_17 rfl ?_
  refine J_imul (pc' := 19) d_Ro_meets_18 rfl ?_
  refine J_if_ge (pc' := 22) (tgt := 26) d_Ro_meets_19 rfl (by decide) (fun hc1 => ?_) (fun hc1 => ?_)
  · have hf := brT hc1 hf
    refine J_iconst (pc' := 27) (v := 0) d_Ro_meets_26 rfl ic_0 ?_
    subst hf
    exact J_zret (by decide) d_Ro_meets_27
  · have hf := brF hc1 hf
    refine J_iconst (pc' := 23) (v := 1) d_Ro_meets_22 rfl ic_1 ?_
    refine J_goto (tgt := 27) d_Ro_meets_23 (by decide) ?_
    subst hf
    exact J_zret (by decide) d_Ro_meets_27
theorem ct_Ro_meets (V : Vx) (l : Launch) (σ : Sg) (v0 : Nat) (v1 : Nat) (iv0 : is_Ro v0) (iv1 : is_Ro v1) : Ct V l y_Ro_meets c_Ro_meets 2 (some .boolean) (k2_rm 0 0) [rf V v0, rf V v1] σ (some (.int (f_Ro_meets σ v0 v1))) σ := Ct.ofJ (by decide +kernel) (Nat.le_of_ble_eq_true rfl) fun X _ => j_Ro_meets _ v0 v1 iv0 iv1 rfl
def f_Rs_metBy_27 (k4 : Sg → Nat → Int32 → Int32 → Option Int32) (σ : Sg) (v1 : Nat) (v2 : Int32) (v3 : Int32) : Option Int32 :=
  k4 σ v1 v2 (v3 + 1)
set_option maxHeartbeats 4000000 in
theorem j_Rs_metBy_27 {V : Vx} {X : Xx} {σ : Sg} {r : Int32} {k4 : Sg → Nat → Int32 → Int32 → Option Int32} (hk4 : ∀ (v1 : Nat) (v2 : Int32) (v3 : Int32) (iv1 : is_Ro v1), k4 σ v1 v2 v3 = some r → J V X (k2_rm 2 43) c_Rs_metBy R_Rs 4 (some .int) (Qr V X (some (.int r)) σ) σ 4 [(0, rf V 5), (1, rf V v1), (2, .int v2), (3, .int v3)] []) (v1 : Nat) (v2 : Int32) (v3 : Int32) (iv1 : is_Ro v1) (hf : f_Rs_metBy_27 k4 σ v1 v2 v3 = some r) : J V X (k2_rm 2 43) c_Rs_metBy R_Rs 4 (some .int) (Qr V X (some (.int r)) σ) σ 27 [(0, rf V 5), (1, rf V v1), (2, .int v2), (3, .int v3)] [] := by
  unfold f_Rs_metBy_27 at hf
  refine J_iinc (pc' := 30) (j := 3) (v := 1) (lv' := [(3, .int (v3 + 1)), (0, rf V 5), (1, rf V v1), (2, .int v2)]) d_Rs_metBy_27 rfl rfl ic_1 (by decide) rfl ?_
  refine J_goto (tgt := 4) d_Rs_metBy_30 (by decide) ?_
  refine J_pick [1, 2, 3, 0] rfl ?_
  exact hk4 _ _ _ iv1 hf
def f_Rs_metBy_4 : Nat → Sg → Nat → Int32 → Int32 → Option Int32
  | 0, _, _, _, _ => none
  | n + 1, σ, v1, v2, v3 =>
    if (σ.1 5 3) ≤ v3 then
      some v2
    else
      if (f_Ro_meets σ v1 (f_Rs_at v3)) = 0 then f_Rs_metBy_27 (f_Rs_metBy_4 n) σ v1 v2 v3 else f_Rs_metBy_27 (f_Rs_metBy_4 n) σ v1 (v2 + 1) v3
theorem f_Rs_metBy_4_s (n : Nat) (σ : Sg) (v1 : Nat) (v2 : Int32) (v3 : Int32) : f_Rs_metBy_4 (n + 1) σ v1 v2 v3 =
    if (σ.1 5 3) ≤ v3 then
      some v2
    else
      if (f_Ro_meets σ v1 (f_Rs_at v3)) = 0 then f_Rs_metBy_27 (f_Rs_metBy_4 n) σ v1 v2 v3 else f_Rs_metBy_27 (f_Rs_metBy_4 n) σ v1 (v2 + 1) v3 := rfl
set_option maxHeartbeats 4000000 in
theorem j_Rs_metBy_4 {V : Vx} {X : Xx} {σ : Sg} {r : Int32}  : ∀ (n : Nat) (v1 : Nat) (v2 : Int32) (v3 : Int32) (iv1 : is_Ro v1), f_Rs_metBy_4 n σ v1 v2 v3 = some r → J V X (k2_rm 2 43) c_Rs_metBy R_Rs 4 (some .int) (Qr V X (some (.int r)) σ) σ 4 [(0, rf V 5), (1, rf V v1), (2, .int v2), (3, .int v3)] [] := by
  intro n
  induction n with
  | zero => intro v1 v2 v3 iv1 hf; exact nn hf
  | succ n ih =>
    intro v1 v2 v3 iv1 hf
    rw [f_Rs_metBy_4_s] at hf
    refine J_iload_n (pc' := 5) d_Rs_metBy_4 rfl 3 rfl ?_
    refine J_aload_n (pc' := 6) d_Rs_metBy_5 rfl 0 rfl ?_
    refine J_getI (pc' := 9) d_Rs_metBy_6 rfl sh_5 fl_Rs_33 rfl ?_
    refine J_icmp_ge (pc' := 12) (tgt := 33) d_Rs_metBy_9 rfl (by decide) (fun hc1 => ?_) (fun hc1 => ?_)
    · have hf := brT hc1 hf
      refine J_iload_n (pc' := 34) d_Rs_metBy_33 rfl 2 rfl ?_
      obtain rfl := Option.some.inj hf
      exact J_iret d_Rs_metBy_34
    · have hf := brF hc1 hf
      refine J_aload_n (pc' := 13) d_Rs_metBy_12 rfl 1 rfl ?_
      refine J_aload_n (pc' := 14) d_Rs_metBy_13 rfl 0 rfl ?_
      refine J_iload_n (pc' := 15) d_Rs_metBy_14 rfl 3 rfl ?_
      refine J_V (pc' := 18) (as := [.int v3]) (rest := [rf V v1]) (st' := [rf V (f_Rs_at v3), rf V v1]) d_Rs_metBy_15 rfl sh_5 rfl mv_Rs_44 (ct_Rs_at V _ σ v3) rfl rfl ⟨Nat.le_of_ble_eq_true rfl, Nat.le_of_ble_eq_true rfl⟩ ⟨rfl, rfl⟩ (Nat.le_of_ble_eq_true rfl) rfl ?_
      refine J_V (pc' := 21) (as := [rf V (f_Rs_at v3)]) (rest := []) (st' := [.int (f_Ro_meets σ v1 (f_Rs_at v3))]) d_Rs_metBy_18 rfl (sh_Ro iv1) rfl mv_Rs_48 (ct_Ro_meets V _ σ v1 (f_Rs_at v3) iv1 (is_Rs_at v3)) rfl rfl ⟨Nat.le_of_ble_eq_true rfl, Nat.le_of_ble_eq_true rfl⟩ ⟨rfl, rfl⟩ (Nat.le_of_ble_eq_true rfl) rfl ?_
      refine J_if_eq (pc' := 24) (tgt := 27) d_Rs_metBy_21 rfl (by decide) (fun hc2 => ?_) (fun hc2 => ?_)
      · have hf := brT hc2 hf
        exact j_Rs_metBy_27 ih _ _ _ iv1 hf
      · have hf := brF hc2 hf
        refine J_iinc (pc' := 27) (j := 2) (v := 1) (lv' := [(2, .int (v2 + 1)), (0, rf V 5), (1, rf V v1), (3, .int v3)]) d_Rs_metBy_24 rfl rfl ic_1 (by decide) rfl ?_
        refine J_pick [1, 2, 0, 3] rfl ?_
        exact j_Rs_metBy_27 ih _ _ _ iv1 hf
def f_Rs_metBy (σ : Sg) (v1 : Nat) : Option Int32 :=
  f_Rs_metBy_4 FU σ v1 0 0
set_option maxHeartbeats 4000000 in
theorem j_Rs_metBy {V : Vx} {X : Xx} {r : Int32} (σ : Sg) (v1 : Nat) (iv1 : is_Ro v1) (hf : f_Rs_metBy σ v1 = some r) : J V X (k2_rm 2 43) c_Rs_metBy R_Rs 4 (some .int) (Qr V X (some (.int r)) σ) σ 0 [(0, rf V 5), (1, rf V v1)] [] := by
  unfold f_Rs_metBy at hf
  refine J_iconst (pc' := 1) (v := 0) d_Rs_metBy_0 rfl ic_0 ?_
  refine J_istore_n (pc' := 2) (lv' := [(2, .int 0), (0, rf V 5), (1, rf V v1)]) d_Rs_metBy_1 rfl rfl (by decide) rfl ?_
  refine J_iconst (pc' := 3) (v := 0) d_Rs_metBy_2 rfl ic_0 ?_
  refine J_istore_n (pc' := 4) (lv' := [(3, .int 0), (2, .int 0), (0, rf V 5), (1, rf V v1)]) d_Rs_metBy_3 rfl rfl (by decide) rfl ?_
  refine J_pick [2, 3, 1, 0] rfl ?_
  exact j_Rs_metBy_4 FU _ _ _ iv1 hf
theorem ct_Rs_metBy (V : Vx) (l : Launch) (σ : Sg) (v1 : Nat) (iv1 : is_Ro v1) {r : Int32} (hf : f_Rs_metBy σ v1 = some r) : Ct V l y_Rs_metBy c_Rs_metBy 4 (some .int) (k2_rm 2 43) [rf V 5, rf V v1] σ (some (.int r)) σ := Ct.ofJ (by decide +kernel) (Nat.le_of_ble_eq_true rfl) fun X _ => j_Rs_metBy _ v1 iv1 hf
def f_GR_crosses (σ : Sg) (v1 : Int32) (v2 : Int32) (v3 : Int32) : Option Int32 :=
  if (f_Rs_hasTwo σ v1 v2) = 0 then
    some (-2)
  else
    if (f_GR_isBelow v3 2) = 0 then
      some (-2)
    else
      if v3 = 1 then
        (f_Rs_metBy σ (f_Rs_at v1)).bind fun r6 =>
          some r6
      else
        if (f_Ro_meets σ (f_Rs_at v1) (f_Rs_at v2)) = 0 then some 0 else some 1
set_option maxHeartbeats 4000000 in
theorem j_GR_crosses {V : Vx} {X : Xx} {r : Int32} (σ : Sg) (v1 : Int32) (v2 : Int32) (v3 : Int32) (hf : f_GR_crosses σ v1 v2 v3 = some r) : J V X (k2_rm 3 66) c_GR_crosses R_GR 5 (some .int) (Qr V X (some (.int r)) σ) σ 0 [(0, rf V 0), (1, .int v1), (2, .int v2), (3, .int v3)] [] := by
  unfold f_GR_crosses at hf
  refine J_aload_n (pc' := 1) d_GR_crosses_0 rfl 0 rfl ?_
  refine J_getR (pc' := 4) d_GR_crosses_1 rfl sh_0 fl_GR_24 rfl ?_
  refine J_iload_n (pc' := 5) d_GR_crosses_4 rfl 1 rfl ?_
  refine J_iload_n (pc' := 6) d_GR_crosses_5 rfl 2 rfl ?_
  refine J_V (pc' := 9) (as := [.int v1, .int v2]) (rest := []) (st' := [.int (f_Rs_hasTwo σ v1 v2)]) d_GR_crosses_6 rfl sh_5 rfl mv_GR_114 (ct_Rs_hasTwo V _ σ v1 v2) rfl rfl ⟨Nat.le_of_ble_eq_true rfl, Nat.le_of_ble_eq_true rfl⟩ ⟨rfl, rfl⟩ (Nat.le_of_ble_eq_true rfl) rfl ?_
  refine J_if_eq (pc' := 12) (tgt := 20) d_GR_crosses_9 rfl (by decide) (fun hc1 => ?_) (fun hc1 => ?_)
  · have hf := brT hc1 hf
    refine J_bipush (pc' := 22) (v := (-2)) d_GR_crosses_20 rfl bc_m2 ?_
    obtain rfl := Option.some.inj hf
    exact J_iret d_GR_crosses_22
  · have hf := brF hc1 hf
    refine J_iload_n (pc' := 13) d_GR_crosses_12 rfl 3 rfl ?_
    refine J_iconst (pc' := 14) (v := 2) d_GR_crosses_13 rfl ic_2 ?_
    refine J_S (pc' := 17) (as := [.int v3, .int 2]) (rest := []) (st' := [.int (f_GR_isBelow v3 2)]) d_GR_crosses_14 rfl ms_GR_67 (ct_GR_isBelow V _ σ v3 2) rfl rfl ⟨Nat.le_of_ble_eq_true rfl, Nat.le_of_ble_eq_true rfl⟩ ⟨rfl, rfl⟩ (Nat.le_of_ble_eq_true rfl) rfl ?_
    refine J_if_ne (pc' := 20) (tgt := 23) d_GR_crosses_17 rfl (by decide) (fun hc2 => ?_) (fun hc2 => ?_)
    · have hf := brF hc2 hf
      refine J_aload_n (pc' := 24) d_GR_crosses_23 rfl 0 rfl ?_
      refine J_getR (pc' := 27) d_GR_crosses_24 rfl sh_0 fl_GR_24 rfl ?_
      refine J_iload_n (pc' := 28) d_GR_crosses_27 rfl 1 rfl ?_
      refine J_V (pc' := 31) (as := [.int v1]) (rest := []) (st' := [rf V (f_Rs_at v1)]) d_GR_crosses_28 rfl sh_5 rfl mv_GR_104 (ct_Rs_at V _ σ v1) rfl rfl ⟨Nat.le_of_ble_eq_true rfl, Nat.le_of_ble_eq_true rfl⟩ ⟨rfl, rfl⟩ (Nat.le_of_ble_eq_true rfl) rfl ?_
      refine J_astore (pc' := 33) (lv' := [(4, rf V (f_Rs_at v1)), (0, rf V 0), (1, .int v1), (2, .int v2), (3, .int v3)]) d_GR_crosses_31 rfl (by decide) rfl ?_
      refine J_iload_n (pc' := 34) d_GR_crosses_33 rfl 4 rfl ?_
      refine J_iconst (pc' := 35) (v := 1) d_GR_crosses_34 rfl ic_1 ?_
      refine J_icmp_ne (pc' := 38) (tgt := 48) d_GR_crosses_35 rfl (by decide) (fun hc3 => ?_) (fun hc3 => ?_)
      · have hf := brF hc3 hf
        refine J_aload (pc' := 50) d_GR_crosses_48 rfl 0 rfl ?_
        refine J_aload_n (pc' := 51) d_GR_crosses_50 rfl 1 rfl ?_
        refine J_getR (pc' := 54) d_GR_crosses_51 rfl sh_0 fl_GR_24 rfl ?_
        refine J_iload_n (pc' := 55) d_GR_crosses_54 rfl 3 rfl ?_
        refine J_V (pc' := 58) (as := [.int v2]) (rest := [rf V (f_Rs_at v1)]) (st' := [rf V (f_Rs_at v2), rf V (f_Rs_at v1)]) d_GR_crosses_55 rfl sh_5 rfl mv_GR_104 (ct_Rs_at V _ σ v2) rfl rfl ⟨Nat.le_of_ble_eq_true rfl, Nat.le_of_ble_eq_true rfl⟩ ⟨rfl, rfl⟩ (Nat.le_of_ble_eq_true rfl) rfl ?_
        refine J_V (pc' := 61) (as := [rf V (f_Rs_at v2)]) (rest := []) (st' := [.int (f_Ro_meets σ (f_Rs_at v1) (f_Rs_at v2))]) d_GR_crosses_58 rfl (sh_Ro (is_Rs_at v1)) rfl mv_GR_121 (ct_Ro_meets V _ σ (f_Rs_at v1) (f_Rs_at v2) (is_Rs_at v1) (is_Rs_at v2)) rfl rfl ⟨Nat.le_of_ble_eq_true rfl, Nat.le_of_ble_eq_true rfl⟩ ⟨rfl, rfl⟩ (Nat.le_of_ble_eq_true rfl) rfl ?_
        refine J_if_eq (pc' := 64) (tgt := 68) d_GR_crosses_61 rfl (by decide) (fun hc4 => ?_) (fun hc4 => ?_)
        · have hf := brT hc4 hf
          refine J_iconst (pc' := 69) (v := 0) d_GR_crosses_68 rfl ic_0 ?_
          obtain rfl := Option.some.inj hf
          exact J_iret d_GR_crosses_69
        · have hf := brF hc4 hf
          refine J_iconst (pc' := 65) (v := 1) d_GR_crosses_64 rfl ic_1 ?_
          refine J_goto (tgt := 69) d_GR_crosses_65 (by decide) ?_
          obtain rfl := Option.some.inj hf
          exact J_iret d_GR_crosses_69
      · have hf := brT hc3 hf
        refine J_aload_n (pc' := 39) d_GR_crosses_38 rfl 1 rfl ?_
        refine J_getR (pc' := 42) d_GR_crosses_39 rfl sh_0 fl_GR_24 rfl ?_
        refine J_aload (pc' := 44) d_GR_crosses_42 rfl 0 rfl ?_
        obtain ⟨r6, hq5, hf⟩ := bpE hf
        refine J_V (pc' := 47) (as := [rf V (f_Rs_at v1)]) (rest := []) (st' := [.int r6]) d_GR_crosses_44 rfl sh_5 rfl mv_GR_117 (ct_Rs_metBy V _ σ (f_Rs_at v1) (is_Rs_at v1) hq5) rfl rfl ⟨Nat.le_of_ble_eq_true rfl, Nat.le_of_ble_eq_true rfl⟩ ⟨rfl, rfl⟩ (Nat.le_of_ble_eq_true rfl) rfl ?_
        obtain rfl := Option.some.inj hf
        exact J_iret d_GR_crosses_47
    · have hf := brT hc2 hf
      refine J_bipush (pc' := 22) (v := (-2)) d_GR_crosses_20 rfl bc_m2 ?_
      obtain rfl := Option.some.inj hf
      exact J_iret d_GR_crosses_22
theorem ct_GR_crosses (V : Vx) (l : Launch) (σ : Sg) (v1 : Int32) (v2 : Int32) (v3 : Int32) {r : Int32} (hf : f_GR_crosses σ v1 v2 v3 = some r) : Ct V l y_GR_crosses c_GR_crosses 5 (some .int) (k2_rm 3 66) [rf V 0, .int v1, .int v2, .int v3] σ (some (.int r)) σ := Ct.ofJ (by decide +kernel) (Nat.le_of_ble_eq_true rfl) fun X _ => j_GR_crosses _ v1 v2 v3 hf
def f_GR_longRefusal (v0 : Int32) : Int64 :=
  (-9223372036854775808) - v0.toInt64
set_option maxHeartbeats 4000000 in
theorem j_GR_longRefusal {V : Vx} {X : Xx} {r : Int64} (σ : Sg) (v0 : Int32) (hf : f_GR_longRefusal v0 = r) : J V X (k2_rm 0 0) c_GR_longRefusal R_GR 1 (some .long) (Qr V X (some (.long r)) σ) σ 0 [(0, .int v0)] [] := by
  unfold f_GR_longRefusal at hf
  refine J_ldc2 (pc' := 3) (v := (-9223372036854775808)) d_GR_longRefusal_0 rfl cw_GR_338 ?_
  refine J_iload_n (pc' := 4) d_GR_longRefusal_3 rfl 0 rfl ?_
  refine J_i2l (pc' := 5) d_GR_longRefusal_4 rfl ?_
  refine J_lsub (pc' := 6) d_GR_longRefusal_5 rfl ?_
  subst hf
  exact J_lret d_GR_longRefusal_6
theorem ct_GR_longRefusal (V : Vx) (l : Launch) (σ : Sg) (v0 : Int32) : Ct V l y_GR_longRefusal c_GR_longRefusal 1 (some .long) (k2_rm 0 0) [.int v0] σ (some (.long (f_GR_longRefusal v0))) σ := Ct.ofJ (by decide +kernel) (Nat.le_of_ble_eq_true rfl) fun X _ => j_GR_longRefusal _ v0 rfl
def f_JM_abs (v0 : Int32) : Int32 :=
  if 0 ≤ v0 then v0 else -v0
set_option maxHeartbeats 4000000 in
theorem j_JM_abs {V : Vx} {X : Xx} {r : Int32} (σ : Sg) (v0 : Int32) (hf : f_JM_abs v0 = r) : J V X (k2_rm 0 0) c_JM_abs R_JM 1 (some .int) (Qr V X (some (.int r)) σ) σ 0 [(0, .int v0)] [] := by
  unfold f_JM_abs at hf
  refine J_iload_n (pc' := 1) d_JM_abs_0 rfl 0 rfl ?_
  refine J_if_ge (pc' := 4) (tgt := 9) d_JM_abs_1 rfl (by decide) (fun hc1 => ?_) (fun hc1 => ?_)
  · have hf := brT hc1 hf
    refine J_iload_n (pc' := 10) d_JM_abs_9 rfl 0 rfl ?_
    subst hf
    exact J_iret d_JM_abs_10
  · have hf := brF hc1 hf
    refine J_iload_n (pc' := 5) d_JM_abs_4 rfl 0 rfl ?_
    refine J_ineg (pc' := 6) d_JM_abs_5 rfl ?_
    refine J_goto (tgt := 10) d_JM_abs_6 (by decide) ?_
    subst hf
    exact J_iret d_JM_abs_10
theorem ct_JM_abs (V : Vx) (l : Launch) (σ : Sg) (v0 : Int32) : Ct V l y_JM_abs c_JM_abs 1 (some .int) (k2_rm 0 0) [.int v0] σ (some (.int (f_JM_abs v0))) σ := Ct.ofJ (by decide +kernel) (Nat.le_of_ble_eq_true rfl) fun X _ => j_JM_abs _ v0 rfl
def f_Ro_apart (σ : Sg) (v0 : Nat) (v1 : Nat) (v2 : Int32) : Int32 :=
  if v2 = 0 then f_JM_abs ((σ.1 v0 0) - (σ.1 v1 0)) else f_JM_abs ((σ.1 v0 1) - (σ.1 v1 1))
set_option maxHeartbeats 4000000 in
theorem j_Ro_apart {V : Vx} {X : Xx} {r : Int32} (σ : Sg) (v0 : Nat) (v1 : Nat) (v2 : Int32) (iv0 : is_Ro v0) (iv1 : is_Ro v1) (hf : f_Ro_apart σ v0 v1 v2 = r) : J V X (k2_rm 1 20) c_Ro_apart R_Ro 3 (some .int) (Qr V X (some (.int r)) σ) σ 0 [(0, rf V v0), (1, rf V v1), (2, .int v2)] [] := by
  unfold f_Ro_apart at hf
  refine J_iload_n (pc' := 1) d_Ro_apart_0 rfl 2 rfl ?_
  refine J_if_ne (pc' := 4) (tgt := 19) d_Ro_apart_1 rfl (by decide) (fun hc1 => ?_) (fun hc1 => ?_)
  · have hf := brF hc1 hf
    refine J_aload_n (pc' := 20) d_Ro_apart_19 rfl 0 rfl ?_
    refine J_getI (pc' := 23) d_Ro_apart_20 rfl (sh_Ro iv0) fl_Ro_13 rfl ?_
    refine J_aload_n (pc' := 24) d_Ro_apart_23 rfl 1 rfl ?_
    refine J_getI (pc' := 27) d_Ro_apart_24 rfl (sh_Ro iv1) fl_Ro_13 rfl ?_
    refine J_isub (pc' := 28) d_Ro_apart_27 rfl ?_
    refine J_S (pc' := 31) (as := [.int ((σ.1 v0 1) - (σ.1 v1 1))]) (rest := []) (st' := [.int (f_JM_abs ((σ.1 v0 1) - (σ.1 v1 1)))]) d_Ro_apart_28 rfl ms_Ro_47 (ct_JM_abs V _ σ ((σ.1 v0 1) - (σ.1 v1 1))) rfl rfl ⟨Nat.le_of_ble_eq_true rfl, Nat.le_of_ble_eq_true rfl⟩ ⟨rfl, rfl⟩ (Nat.le_of_ble_eq_true rfl) rfl ?_
    subst hf
    exact J_iret d_Ro_apart_31
  · have hf := brT hc1 hf
    refine J_aload_n (pc' := 5) d_Ro_apart_4 rfl 0 rfl ?_
    refine J_getI (pc' := 8) d_Ro_apart_5 rfl (sh_Ro iv0) fl_Ro_7 rfl ?_
    refine J_aload_n (pc' := 9) d_Ro_apart_8 rfl 1 rfl ?_
    refine J_getI (pc' := 12) d_Ro_apart_9 rfl (sh_Ro iv1) fl_Ro_7 rfl ?_
    refine J_isub (pc' := 13) d_Ro_apart_12 rfl ?_
    refine J_S (pc' := 16) (as := [.int ((σ.1 v0 0) - (σ.1 v1 0))]) (rest := []) (st' := [.int (f_JM_abs ((σ.1 v0 0) - (σ.1 v1 0)))]) d_Ro_apart_13 rfl ms_Ro_47 (ct_JM_abs V _ σ ((σ.1 v0 0) - (σ.1 v1 0))) rfl rfl ⟨Nat.le_of_ble_eq_true rfl, Nat.le_of_ble_eq_true rfl⟩ ⟨rfl, rfl⟩ (Nat.le_of_ble_eq_true rfl) rfl ?_
    refine J_goto (tgt := 31) d_Ro_apart_16 (by decide) ?_
    subst hf
    exact J_iret d_Ro_apart_31
theorem ct_Ro_apart (V : Vx) (l : Launch) (σ : Sg) (v0 : Nat) (v1 : Nat) (v2 : Int32) (iv0 : is_Ro v0) (iv1 : is_Ro v1) : Ct V l y_Ro_apart c_Ro_apart 3 (some .int) (k2_rm 1 20) [rf V v0, rf V v1, .int v2] σ (some (.int (f_Ro_apart σ v0 v1 v2))) σ := Ct.ofJ (by decide +kernel) (Nat.le_of_ble_eq_true rfl) fun X _ => j_Ro_apart _ v0 v1 v2 iv0 iv1 rfl
def f_Ro_span (σ : Sg) (v0 : Nat) (v1 : Nat) : Int32 :=
  (f_Ro_apart σ v0 v1 0) + (f_Ro_apart σ v0 v1 1)
set_option maxHeartbeats 4000000 in
theorem j_Ro_span {V : Vx} {X : Xx} {r : Int32} (σ : Sg) (v0 : Nat) (v1 : Nat) (iv0 : is_Ro v0) (iv1 : is_Ro v1) (hf : f_Ro_span σ v0 v1 = r) : J V X (k2_rm 2 42) c_Ro_span R_Ro 2 (some .int) (Qr V X (some (.int r)) σ) σ 0 [(0, rf V v0), (1, rf V v1)] [] := by
  unfold f_Ro_span at hf
  refine J_aload_n (pc' := 1) d_Ro_span_0 rfl 0 rfl ?_
  refine J_aload_n (pc' := 2) d_Ro_span_1 rfl 1 rfl ?_
  refine J_iconst (pc' := 3) (v := 0) d_Ro_span_2 rfl ic_0 ?_
  refine J_V (pc' := 6) (as := [rf V v1, .int 0]) (rest := []) (st' := [.int (f_Ro_apart σ v0 v1 0)]) d_Ro_span_3 rfl (sh_Ro iv0) rfl mv_Ro_51 (ct_Ro_apart V _ σ v0 v1 0 iv0 iv1) rfl rfl ⟨Nat.le_of_ble_eq_true rfl, Nat.le_of_ble_eq_true rfl⟩ ⟨rfl, rfl⟩ (Nat.le_of_ble_eq_true rfl) rfl ?_
  refine J_aload_n (pc' := 7) d_Ro_span_6 rfl 0 rfl ?_
  refine J_aload_n (pc' := 8) d_Ro_span_7 rfl 1 rfl ?_
  refine J_iconst (pc' := 9) (v := 1) d_Ro_span_8 rfl ic_1 ?_
  refine J_V (pc' := 12) (as := [rf V v1, .int 1]) (rest := [.int (f_Ro_apart σ v0 v1 0)]) (st' := [.int (f_Ro_apart σ v0 v1 1), .int (f_Ro_apart σ v0 v1 0)]) d_Ro_span_9 rfl (sh_Ro iv0) rfl mv_Ro_51 (ct_Ro_apart V _ σ v0 v1 1 iv0 iv1) rfl rfl ⟨Nat.le_of_ble_eq_true rfl, Nat.le_of_ble_eq_true rfl⟩ ⟨rfl, rfl⟩ (Nat.le_of_ble_eq_true rfl) rfl ?_
  refine J_iadd (pc' := 13) d_Ro_span_12 rfl ?_
  subst hf
  exact J_iret d_Ro_span_13
theorem ct_Ro_span (V : Vx) (l : Launch) (σ : Sg) (v0 : Nat) (v1 : Nat) (iv0 : is_Ro v0) (iv1 : is_Ro v1) : Ct V l y_Ro_span c_Ro_span 2 (some .int) (k2_rm 2 42) [rf V v0, rf V v1] σ (some (.int (f_Ro_span σ v0 v1))) σ := Ct.ofJ (by decide +kernel) (Nat.le_of_ble_eq_true rfl) fun X _ => j_Ro_span _ v0 v1 iv0 iv1 rfl
