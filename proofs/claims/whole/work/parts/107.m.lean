theorem d_GR_sent_0 : decode c_GR_sent 0 = .ok (.iload_n 1, 1) := by decide +kernel
theorem d_GR_sent_1 : decode c_GR_sent 1 = .ok (.iconst (-1), 1) := by decide +kernel
theorem d_GR_sent_2 : decode c_GR_sent 2 = .ok (.if_icmp .eq 26, 3) := by decide +kernel
theorem d_GR_sent_5 : decode c_GR_sent 5 = .ok (.iload_n 1, 1) := by decide +kernel
theorem d_GR_sent_6 : decode c_GR_sent 6 = .ok (.bipush (-2), 2) := by decide +kernel
theorem d_GR_sent_8 : decode c_GR_sent 8 = .ok (.if_icmp .eq 20, 3) := by decide +kernel
theorem d_GR_sent_11 : decode c_GR_sent 11 = .ok (.iload_n 1, 1) := by decide +kernel
theorem d_GR_sent_12 : decode c_GR_sent 12 = .ok (.aload_n 0, 1) := by decide +kernel
theorem d_GR_sent_13 : decode c_GR_sent 13 = .ok (.getfield 49, 3) := by decide +kernel
theorem d_GR_sent_16 : decode c_GR_sent 16 = .ok (.getfield 230, 3) := by decide +kernel
theorem d_GR_sent_19 : decode c_GR_sent 19 = .ok (.invokestatic 67, 3) := by decide +kernel
theorem d_GR_sent_22 : decode c_GR_sent 22 = .ok (.ifCond .ne 6, 3) := by decide +kernel
theorem d_GR_sent_25 : decode c_GR_sent 25 = .ok (.bipush (-2), 2) := by decide +kernel
theorem d_GR_sent_27 : decode c_GR_sent 27 = .ok (.ireturn, 1) := by decide +kernel
theorem d_GR_sent_28 : decode c_GR_sent 28 = .ok (.aload_n 0, 1) := by decide +kernel
theorem d_GR_sent_29 : decode c_GR_sent 29 = .ok (.getfield 49, 3) := by decide +kernel
theorem d_GR_sent_32 : decode c_GR_sent 32 = .ok (.aload_n 0, 1) := by decide +kernel
theorem d_GR_sent_33 : decode c_GR_sent 33 = .ok (.getfield 24, 3) := by decide +kernel
theorem d_GR_sent_36 : decode c_GR_sent 36 = .ok (.iconst (-1), 1) := by decide +kernel
theorem d_GR_sent_37 : decode c_GR_sent 37 = .ok (.aload_n 0, 1) := by decide +kernel
theorem d_GR_sent_38 : decode c_GR_sent 38 = .ok (.getfield 28, 3) := by decide +kernel
theorem d_GR_sent_41 : decode c_GR_sent 41 = .ok (.iconst 2, 1) := by decide +kernel
theorem d_GR_sent_42 : decode c_GR_sent 42 = .ok (.iaload, 1) := by decide +kernel
theorem d_GR_sent_43 : decode c_GR_sent 43 = .ok (.invokevirtual 232, 3) := by decide +kernel
theorem d_GR_sent_46 : decode c_GR_sent 46 = .ok (.aload_n 0, 1) := by decide +kernel
theorem d_GR_sent_47 : decode c_GR_sent 47 = .ok (.iload_n 1, 1) := by decide +kernel
theorem d_GR_sent_48 : decode c_GR_sent 48 = .ok (.invokevirtual 236, 3) := by decide +kernel
theorem d_GR_sent_51 : decode c_GR_sent 51 = .ok (.ireturn, 1) := by decide +kernel
theorem d_GR_cutAsTold_0 : decode c_GR_cutAsTold 0 = .ok (.aload_n 0, 1) := by decide +kernel
theorem d_GR_cutAsTold_1 : decode c_GR_cutAsTold 1 = .ok (.getfield 49, 3) := by decide +kernel
theorem d_GR_cutAsTold_4 : decode c_GR_cutAsTold 4 = .ok (.aload_n 0, 1) := by decide +kernel
theorem d_GR_cutAsTold_5 : decode c_GR_cutAsTold 5 = .ok (.getfield 24, 3) := by decide +kernel
theorem d_GR_cutAsTold_8 : decode c_GR_cutAsTold 8 = .ok (.iconst (-1), 1) := by decide +kernel
theorem d_GR_cutAsTold_9 : decode c_GR_cutAsTold 9 = .ok (.aload_n 0, 1) := by decide +kernel
theorem d_GR_cutAsTold_10 : decode c_GR_cutAsTold 10 = .ok (.getfield 28, 3) := by decide +kernel
theorem d_GR_cutAsTold_13 : decode c_GR_cutAsTold 13 = .ok (.iconst 2, 1) := by decide +kernel
theorem d_GR_cutAsTold_14 : decode c_GR_cutAsTold 14 = .ok (.iaload, 1) := by decide +kernel
theorem d_GR_cutAsTold_15 : decode c_GR_cutAsTold 15 = .ok (.invokevirtual 232, 3) := by decide +kernel
theorem d_GR_cutAsTold_18 : decode c_GR_cutAsTold 18 = .ok (.aload_n 0, 1) := by decide +kernel
theorem d_GR_cutAsTold_19 : decode c_GR_cutAsTold 19 = .ok (.getfield 49, 3) := by decide +kernel
theorem d_GR_cutAsTold_22 : decode c_GR_cutAsTold 22 = .ok (.invokevirtual 242, 3) := by decide +kernel
theorem d_GR_cutAsTold_25 : decode c_GR_cutAsTold 25 = .ok (.istore_n 2, 1) := by decide +kernel
theorem d_GR_cutAsTold_26 : decode c_GR_cutAsTold 26 = .ok (.aload_n 0, 1) := by decide +kernel
theorem d_GR_cutAsTold_27 : decode c_GR_cutAsTold 27 = .ok (.getfield 49, 3) := by decide +kernel
theorem d_GR_cutAsTold_30 : decode c_GR_cutAsTold 30 = .ok (.aload_n 0, 1) := by decide +kernel
theorem d_GR_cutAsTold_31 : decode c_GR_cutAsTold 31 = .ok (.getfield 24, 3) := by decide +kernel
theorem d_GR_cutAsTold_34 : decode c_GR_cutAsTold 34 = .ok (.iload_n 1, 1) := by decide +kernel
theorem d_GR_cutAsTold_35 : decode c_GR_cutAsTold 35 = .ok (.aload_n 0, 1) := by decide +kernel
theorem d_GR_cutAsTold_36 : decode c_GR_cutAsTold 36 = .ok (.getfield 28, 3) := by decide +kernel
theorem d_GR_cutAsTold_39 : decode c_GR_cutAsTold 39 = .ok (.iconst 2, 1) := by decide +kernel
theorem d_GR_cutAsTold_40 : decode c_GR_cutAsTold 40 = .ok (.iaload, 1) := by decide +kernel
theorem d_GR_cutAsTold_41 : decode c_GR_cutAsTold 41 = .ok (.invokevirtual 232, 3) := by decide +kernel
theorem d_GR_cutAsTold_44 : decode c_GR_cutAsTold 44 = .ok (.aload_n 0, 1) := by decide +kernel
theorem d_GR_cutAsTold_45 : decode c_GR_cutAsTold 45 = .ok (.getfield 49, 3) := by decide +kernel
theorem d_GR_cutAsTold_48 : decode c_GR_cutAsTold 48 = .ok (.invokevirtual 242, 3) := by decide +kernel
theorem d_GR_cutAsTold_51 : decode c_GR_cutAsTold 51 = .ok (.istore_n 3, 1) := by decide +kernel
theorem d_GR_cutAsTold_52 : decode c_GR_cutAsTold 52 = .ok (.iload_n 2, 1) := by decide +kernel
theorem d_GR_cutAsTold_53 : decode c_GR_cutAsTold 53 = .ok (.iconst (-1), 1) := by decide +kernel
theorem d_GR_cutAsTold_54 : decode c_GR_cutAsTold 54 = .ok (.if_icmp .eq 8, 3) := by decide +kernel
theorem d_GR_cutAsTold_57 : decode c_GR_cutAsTold 57 = .ok (.iload_n 3, 1) := by decide +kernel
theorem d_GR_cutAsTold_58 : decode c_GR_cutAsTold 58 = .ok (.iconst (-1), 1) := by decide +kernel
theorem d_GR_cutAsTold_59 : decode c_GR_cutAsTold 59 = .ok (.if_icmp .ne 8, 3) := by decide +kernel
theorem d_GR_cutAsTold_62 : decode c_GR_cutAsTold 62 = .ok (.bipush (-3), 2) := by decide +kernel
theorem d_GR_cutAsTold_64 : decode c_GR_cutAsTold 64 = .ok (.goto 6, 3) := by decide +kernel
theorem d_GR_cutAsTold_67 : decode c_GR_cutAsTold 67 = .ok (.iload_n 3, 1) := by decide +kernel
theorem d_GR_cutAsTold_68 : decode c_GR_cutAsTold 68 = .ok (.iload_n 2, 1) := by decide +kernel
theorem d_GR_cutAsTold_69 : decode c_GR_cutAsTold 69 = .ok (.isub, 1) := by decide +kernel
theorem d_GR_cutAsTold_70 : decode c_GR_cutAsTold 70 = .ok (.ireturn, 1) := by decide +kernel
theorem d_GR_cut_0 : decode c_GR_cut 0 = .ok (.aload_n 0, 1) := by decide +kernel
theorem d_GR_cut_1 : decode c_GR_cut 1 = .ok (.getfield 24, 3) := by decide +kernel
theorem d_GR_cut_4 : decode c_GR_cut 4 = .ok (.iload_n 1, 1) := by decide +kernel
theorem d_GR_cut_5 : decode c_GR_cut 5 = .ok (.invokevirtual 100, 3) := by decide +kernel
theorem d_GR_cut_8 : decode c_GR_cut 8 = .ok (.ifCond .ne 6, 3) := by decide +kernel
theorem d_GR_cut_11 : decode c_GR_cut 11 = .ok (.bipush (-2), 2) := by decide +kernel
theorem d_GR_cut_13 : decode c_GR_cut 13 = .ok (.ireturn, 1) := by decide +kernel
theorem d_GR_cut_14 : decode c_GR_cut 14 = .ok (.aload_n 0, 1) := by decide +kernel
theorem d_GR_cut_15 : decode c_GR_cut 15 = .ok (.iload_n 1, 1) := by decide +kernel
theorem d_GR_cut_16 : decode c_GR_cut 16 = .ok (.invokevirtual 239, 3) := by decide +kernel
theorem d_GR_cut_19 : decode c_GR_cut 19 = .ok (.ireturn, 1) := by decide +kernel
theorem d_GR_needed_0 : decode c_GR_needed 0 = .ok (.aload_n 0, 1) := by decide +kernel
theorem d_GR_needed_1 : decode c_GR_needed 1 = .ok (.getfield 28, 3) := by decide +kernel
theorem d_GR_needed_4 : decode c_GR_needed 4 = .ok (.iconst 2, 1) := by decide +kernel
theorem d_GR_needed_5 : decode c_GR_needed 5 = .ok (.iaload, 1) := by decide +kernel
theorem d_GR_needed_6 : decode c_GR_needed 6 = .ok (.istore_n 1, 1) := by decide +kernel
theorem d_GR_needed_7 : decode c_GR_needed 7 = .ok (.aload_n 0, 1) := by decide +kernel
theorem d_GR_needed_8 : decode c_GR_needed 8 = .ok (.getfield 49, 3) := by decide +kernel
theorem d_GR_needed_11 : decode c_GR_needed 11 = .ok (.aload_n 0, 1) := by decide +kernel
theorem d_GR_needed_12 : decode c_GR_needed 12 = .ok (.getfield 24, 3) := by decide +kernel
theorem d_GR_needed_15 : decode c_GR_needed 15 = .ok (.iconst (-1), 1) := by decide +kernel
theorem d_GR_needed_16 : decode c_GR_needed 16 = .ok (.iload_n 1, 1) := by decide +kernel
theorem d_GR_needed_17 : decode c_GR_needed 17 = .ok (.invokevirtual 232, 3) := by decide +kernel
theorem d_GR_needed_20 : decode c_GR_needed 20 = .ok (.aload_n 0, 1) := by decide +kernel
theorem d_GR_needed_21 : decode c_GR_needed 21 = .ok (.getfield 49, 3) := by decide +kernel
theorem d_GR_needed_24 : decode c_GR_needed 24 = .ok (.invokevirtual 242, 3) := by decide +kernel
theorem d_GR_needed_27 : decode c_GR_needed 27 = .ok (.iconst (-1), 1) := by decide +kernel
theorem d_GR_needed_28 : decode c_GR_needed 28 = .ok (.if_icmp .ne 5, 3) := by decide +kernel
theorem d_GR_needed_31 : decode c_GR_needed 31 = .ok (.iconst 0, 1) := by decide +kernel
theorem d_GR_needed_32 : decode c_GR_needed 32 = .ok (.ireturn, 1) := by decide +kernel
theorem d_GR_needed_33 : decode c_GR_needed 33 = .ok (.iconst 0, 1) := by decide +kernel
theorem d_GR_needed_34 : decode c_GR_needed 34 = .ok (.istore_n 2, 1) := by decide +kernel
theorem d_GR_needed_35 : decode c_GR_needed 35 = .ok (.iconst 0, 1) := by decide +kernel
theorem d_GR_needed_36 : decode c_GR_needed 36 = .ok (.istore_n 3, 1) := by decide +kernel
theorem d_GR_needed_37 : decode c_GR_needed 37 = .ok (.iload_n 3, 1) := by decide +kernel
theorem d_GR_needed_38 : decode c_GR_needed 38 = .ok (.aload_n 0, 1) := by decide +kernel
theorem d_GR_needed_39 : decode c_GR_needed 39 = .ok (.getfield 24, 3) := by decide +kernel
theorem d_GR_needed_42 : decode c_GR_needed 42 = .ok (.getfield 245, 3) := by decide +kernel
theorem d_GR_needed_45 : decode c_GR_needed 45 = .ok (.if_icmp .ge 39, 3) := by decide +kernel
theorem d_GR_needed_48 : decode c_GR_needed 48 = .ok (.aload_n 0, 1) := by decide +kernel
theorem d_GR_needed_49 : decode c_GR_needed 49 = .ok (.getfield 49, 3) := by decide +kernel
theorem d_GR_needed_52 : decode c_GR_needed 52 = .ok (.aload_n 0, 1) := by decide +kernel
theorem d_GR_needed_53 : decode c_GR_needed 53 = .ok (.getfield 24, 3) := by decide +kernel
theorem d_GR_needed_56 : decode c_GR_needed 56 = .ok (.iload_n 3, 1) := by decide +kernel
theorem d_GR_needed_57 : decode c_GR_needed 57 = .ok (.iload_n 1, 1) := by decide +kernel
theorem d_GR_needed_58 : decode c_GR_needed 58 = .ok (.invokevirtual 232, 3) := by decide +kernel
theorem d_GR_needed_61 : decode c_GR_needed 61 = .ok (.aload_n 0, 1) := by decide +kernel
theorem d_GR_needed_62 : decode c_GR_needed 62 = .ok (.getfield 49, 3) := by decide +kernel
theorem d_GR_needed_65 : decode c_GR_needed 65 = .ok (.invokevirtual 242, 3) := by decide +kernel
theorem d_GR_needed_68 : decode c_GR_needed 68 = .ok (.iconst (-1), 1) := by decide +kernel
theorem d_GR_needed_69 : decode c_GR_needed 69 = .ok (.if_icmp .ne 9, 3) := by decide +kernel
theorem d_GR_needed_72 : decode c_GR_needed 72 = .ok (.iload_n 2, 1) := by decide +kernel
theorem d_GR_needed_73 : decode c_GR_needed 73 = .ok (.iconst 1, 1) := by decide +kernel
theorem d_GR_needed_74 : decode c_GR_needed 74 = .ok (.iload_n 3, 1) := by decide +kernel
theorem d_GR_needed_75 : decode c_GR_needed 75 = .ok (.ishl, 1) := by decide +kernel
theorem d_GR_needed_76 : decode c_GR_needed 76 = .ok (.ior, 1) := by decide +kernel
theorem d_GR_needed_77 : decode c_GR_needed 77 = .ok (.istore_n 2, 1) := by decide +kernel
theorem d_GR_needed_78 : decode c_GR_needed 78 = .ok (.iinc 3 1, 3) := by decide +kernel
theorem d_GR_needed_81 : decode c_GR_needed 81 = .ok (.goto (-44), 3) := by decide +kernel
theorem d_GR_needed_84 : decode c_GR_needed 84 = .ok (.iload_n 2, 1) := by decide +kernel
theorem d_GR_needed_85 : decode c_GR_needed 85 = .ok (.ireturn, 1) := by decide +kernel
theorem d_Mi_tryPegs_0 : decode c_Mi_tryPegs 0 = .ok (.aload_n 0, 1) := by decide +kernel
theorem d_Mi_tryPegs_1 : decode c_Mi_tryPegs 1 = .ok (.aload_n 0, 1) := by decide +kernel
theorem d_Mi_tryPegs_2 : decode c_Mi_tryPegs 2 = .ok (.getfield 27, 3) := by decide +kernel
theorem d_Mi_tryPegs_5 : decode c_Mi_tryPegs 5 = .ok (.iconst 0, 1) := by decide +kernel
theorem d_Mi_tryPegs_6 : decode c_Mi_tryPegs 6 = .ok (.iload_n 2, 1) := by decide +kernel
theorem d_Mi_tryPegs_7 : decode c_Mi_tryPegs 7 = .ok (.invokevirtual 53, 3) := by decide +kernel
theorem d_Mi_tryPegs_10 : decode c_Mi_tryPegs 10 = .ok (.aload_n 0, 1) := by decide +kernel
theorem d_Mi_tryPegs_11 : decode c_Mi_tryPegs 11 = .ok (.aload_n 0, 1) := by decide +kernel
theorem d_Mi_tryPegs_12 : decode c_Mi_tryPegs 12 = .ok (.invokevirtual 88, 3) := by decide +kernel
theorem d_Mi_tryPegs_15 : decode c_Mi_tryPegs 15 = .ok (.invokevirtual 92, 3) := by decide +kernel
theorem d_Mi_tryPegs_18 : decode c_Mi_tryPegs 18 = .ok (.invokestatic 98, 3) := by decide +kernel
theorem d_Mi_tryPegs_21 : decode c_Mi_tryPegs 21 = .ok (.istore_n 3, 1) := by decide +kernel
theorem d_Mi_tryPegs_22 : decode c_Mi_tryPegs 22 = .ok (.aload_n 1, 1) := by decide +kernel
theorem d_Mi_tryPegs_23 : decode c_Mi_tryPegs 23 = .ok (.aload_n 0, 1) := by decide +kernel
theorem d_Mi_tryPegs_24 : decode c_Mi_tryPegs 24 = .ok (.getfield 27, 3) := by decide +kernel
theorem d_Mi_tryPegs_27 : decode c_Mi_tryPegs 27 = .ok (.invokevirtual 125, 3) := by decide +kernel
theorem d_Mi_tryPegs_30 : decode c_Mi_tryPegs 30 = .ok (.istore 4, 2) := by decide +kernel
theorem d_Mi_tryPegs_32 : decode c_Mi_tryPegs 32 = .ok (.aload_n 0, 1) := by decide +kernel
theorem d_Mi_tryPegs_33 : decode c_Mi_tryPegs 33 = .ok (.getfield 114, 3) := by decide +kernel
theorem d_Mi_tryPegs_36 : decode c_Mi_tryPegs 36 = .ok (.iconst (-1), 1) := by decide +kernel
theorem d_Mi_tryPegs_37 : decode c_Mi_tryPegs 37 = .ok (.if_icmp .eq 28, 3) := by decide +kernel
theorem d_Mi_tryPegs_40 : decode c_Mi_tryPegs 40 = .ok (.iload_n 3, 1) := by decide +kernel
theorem d_Mi_tryPegs_41 : decode c_Mi_tryPegs 41 = .ok (.aload_n 0, 1) := by decide +kernel
theorem d_Mi_tryPegs_42 : decode c_Mi_tryPegs 42 = .ok (.getfield 114, 3) := by decide +kernel
theorem d_Mi_tryPegs_45 : decode c_Mi_tryPegs 45 = .ok (.if_icmp .lt 20, 3) := by decide +kernel
theorem d_Mi_tryPegs_48 : decode c_Mi_tryPegs 48 = .ok (.iload_n 3, 1) := by decide +kernel
theorem d_Mi_tryPegs_49 : decode c_Mi_tryPegs 49 = .ok (.aload_n 0, 1) := by decide +kernel
theorem d_Mi_tryPegs_50 : decode c_Mi_tryPegs 50 = .ok (.getfield 114, 3) := by decide +kernel
theorem d_Mi_tryPegs_53 : decode c_Mi_tryPegs 53 = .ok (.if_icmp .ne 16, 3) := by decide +kernel
theorem d_Mi_tryPegs_56 : decode c_Mi_tryPegs 56 = .ok (.iload 4, 2) := by decide +kernel
theorem d_Mi_tryPegs_58 : decode c_Mi_tryPegs 58 = .ok (.aload_n 0, 1) := by decide +kernel
theorem d_Mi_tryPegs_59 : decode c_Mi_tryPegs 59 = .ok (.getfield 129, 3) := by decide +kernel
theorem d_Mi_tryPegs_62 : decode c_Mi_tryPegs 62 = .ok (.if_icmp .ge 7, 3) := by decide +kernel
theorem d_Mi_tryPegs_65 : decode c_Mi_tryPegs 65 = .ok (.iconst 1, 1) := by decide +kernel
theorem d_Mi_tryPegs_66 : decode c_Mi_tryPegs 66 = .ok (.goto 4, 3) := by decide +kernel
theorem d_Mi_tryPegs_69 : decode c_Mi_tryPegs 69 = .ok (.iconst 0, 1) := by decide +kernel
theorem d_Mi_tryPegs_70 : decode c_Mi_tryPegs 70 = .ok (.istore 5, 2) := by decide +kernel
theorem d_Mi_tryPegs_72 : decode c_Mi_tryPegs 72 = .ok (.iload_n 3, 1) := by decide +kernel
theorem d_Mi_tryPegs_73 : decode c_Mi_tryPegs 73 = .ok (.iconst (-1), 1) := by decide +kernel
theorem d_Mi_tryPegs_74 : decode c_Mi_tryPegs 74 = .ok (.if_icmp .eq 41, 3) := by decide +kernel
theorem d_Mi_tryPegs_77 : decode c_Mi_tryPegs 77 = .ok (.iload 5, 2) := by decide +kernel
theorem d_Mi_tryPegs_79 : decode c_Mi_tryPegs 79 = .ok (.ifCond .eq 36, 3) := by decide +kernel
theorem d_Mi_tryPegs_82 : decode c_Mi_tryPegs 82 = .ok (.aload_n 0, 1) := by decide +kernel
theorem d_Mi_tryPegs_83 : decode c_Mi_tryPegs 83 = .ok (.aload_n 0, 1) := by decide +kernel
theorem d_Mi_tryPegs_84 : decode c_Mi_tryPegs 84 = .ok (.getfield 27, 3) := by decide +kernel
theorem d_Mi_tryPegs_87 : decode c_Mi_tryPegs 87 = .ok (.getfield 132, 3) := by decide +kernel
theorem d_Mi_tryPegs_90 : decode c_Mi_tryPegs 90 = .ok (.putfield 135, 3) := by decide +kernel
theorem d_Mi_tryPegs_93 : decode c_Mi_tryPegs 93 = .ok (.aload_n 0, 1) := by decide +kernel
theorem d_Mi_tryPegs_94 : decode c_Mi_tryPegs 94 = .ok (.aload_n 0, 1) := by decide +kernel
theorem d_Mi_tryPegs_95 : decode c_Mi_tryPegs 95 = .ok (.getfield 27, 3) := by decide +kernel
theorem d_Mi_tryPegs_98 : decode c_Mi_tryPegs 98 = .ok (.getfield 138, 3) := by decide +kernel
theorem d_Mi_tryPegs_101 : decode c_Mi_tryPegs 101 = .ok (.putfield 141, 3) := by decide +kernel
theorem d_Mi_tryPegs_104 : decode c_Mi_tryPegs 104 = .ok (.aload_n 0, 1) := by decide +kernel
theorem d_Mi_tryPegs_105 : decode c_Mi_tryPegs 105 = .ok (.iload_n 3, 1) := by decide +kernel
theorem d_Mi_tryPegs_106 : decode c_Mi_tryPegs 106 = .ok (.putfield 114, 3) := by decide +kernel
theorem d_Mi_tryPegs_109 : decode c_Mi_tryPegs 109 = .ok (.aload_n 0, 1) := by decide +kernel
theorem d_Mi_tryPegs_110 : decode c_Mi_tryPegs 110 = .ok (.iload 4, 2) := by decide +kernel
theorem d_Mi_tryPegs_112 : decode c_Mi_tryPegs 112 = .ok (.putfield 129, 3) := by decide +kernel
theorem d_Mi_tryPegs_115 : decode c_Mi_tryPegs 115 = .ok (.return_, 1) := by decide +kernel
theorem d_Mi_seekPegs_0 : decode c_Mi_seekPegs 0 = .ok (.aload_n 0, 1) := by decide +kernel
theorem d_Mi_seekPegs_1 : decode c_Mi_seekPegs 1 = .ok (.aload_n 1, 1) := by decide +kernel
theorem d_Mi_seekPegs_2 : decode c_Mi_seekPegs 2 = .ok (.iconst (-1), 1) := by decide +kernel
theorem d_Mi_seekPegs_3 : decode c_Mi_seekPegs 3 = .ok (.iload 5, 2) := by decide +kernel
theorem d_Mi_seekPegs_5 : decode c_Mi_seekPegs 5 = .ok (.invokevirtual 107, 3) := by decide +kernel
theorem d_Mi_seekPegs_8 : decode c_Mi_seekPegs 8 = .ok (.aload_n 0, 1) := by decide +kernel
theorem d_Mi_seekPegs_9 : decode c_Mi_seekPegs 9 = .ok (.getfield 27, 3) := by decide +kernel
theorem d_Mi_seekPegs_12 : decode c_Mi_seekPegs 12 = .ok (.iload_n 2, 1) := by decide +kernel
theorem d_Mi_seekPegs_13 : decode c_Mi_seekPegs 13 = .ok (.putfield 74, 3) := by decide +kernel
theorem d_Mi_seekPegs_16 : decode c_Mi_seekPegs 16 = .ok (.aload_n 0, 1) := by decide +kernel
theorem d_Mi_seekPegs_17 : decode c_Mi_seekPegs 17 = .ok (.getfield 27, 3) := by decide +kernel
theorem d_Mi_seekPegs_20 : decode c_Mi_seekPegs 20 = .ok (.iload_n 3, 1) := by decide +kernel
theorem d_Mi_seekPegs_21 : decode c_Mi_seekPegs 21 = .ok (.putfield 76, 3) := by decide +kernel
theorem d_Mi_seekPegs_24 : decode c_Mi_seekPegs 24 = .ok (.aload_n 0, 1) := by decide +kernel
theorem d_Mi_seekPegs_25 : decode c_Mi_seekPegs 25 = .ok (.getfield 27, 3) := by decide +kernel
theorem d_Mi_seekPegs_28 : decode c_Mi_seekPegs 28 = .ok (.iload 4, 2) := by decide +kernel
theorem d_Mi_seekPegs_30 : decode c_Mi_seekPegs 30 = .ok (.putfield 111, 3) := by decide +kernel
theorem d_Mi_seekPegs_33 : decode c_Mi_seekPegs 33 = .ok (.aload_n 0, 1) := by decide +kernel
theorem d_Mi_seekPegs_34 : decode c_Mi_seekPegs 34 = .ok (.iconst (-1), 1) := by decide +kernel
theorem d_Mi_seekPegs_35 : decode c_Mi_seekPegs 35 = .ok (.putfield 114, 3) := by decide +kernel
theorem d_Mi_seekPegs_38 : decode c_Mi_seekPegs 38 = .ok (.iconst 0, 1) := by decide +kernel
theorem d_Mi_seekPegs_39 : decode c_Mi_seekPegs 39 = .ok (.istore 6, 2) := by decide +kernel
theorem d_Mi_seekPegs_41 : decode c_Mi_seekPegs 41 = .ok (.iload 6, 2) := by decide +kernel
theorem d_Mi_seekPegs_43 : decode c_Mi_seekPegs 43 = .ok (.bipush 10, 2) := by decide +kernel
theorem d_Mi_seekPegs_45 : decode c_Mi_seekPegs 45 = .ok (.if_icmp .ge 43, 3) := by decide +kernel
theorem d_Mi_seekPegs_48 : decode c_Mi_seekPegs 48 = .ok (.iconst 0, 1) := by decide +kernel
theorem d_Mi_seekPegs_49 : decode c_Mi_seekPegs 49 = .ok (.istore 7, 2) := by decide +kernel
theorem d_Mi_seekPegs_51 : decode c_Mi_seekPegs 51 = .ok (.iload 7, 2) := by decide +kernel
theorem d_Mi_seekPegs_53 : decode c_Mi_seekPegs 53 = .ok (.bipush 10, 2) := by decide +kernel
theorem d_Mi_seekPegs_55 : decode c_Mi_seekPegs 55 = .ok (.if_icmp .ge 27, 3) := by decide +kernel
theorem d_Mi_seekPegs_58 : decode c_Mi_seekPegs 58 = .ok (.aload_n 0, 1) := by decide +kernel
theorem d_Mi_seekPegs_59 : decode c_Mi_seekPegs 59 = .ok (.getfield 27, 3) := by decide +kernel
theorem d_Mi_seekPegs_62 : decode c_Mi_seekPegs 62 = .ok (.iload 6, 2) := by decide +kernel
theorem d_Mi_seekPegs_64 : decode c_Mi_seekPegs 64 = .ok (.iload 7, 2) := by decide +kernel
theorem d_Mi_seekPegs_66 : decode c_Mi_seekPegs 66 = .ok (.invokevirtual 117, 3) := by decide +kernel
theorem d_Mi_seekPegs_69 : decode c_Mi_seekPegs 69 = .ok (.aload_n 0, 1) := by decide +kernel
theorem d_Mi_seekPegs_70 : decode c_Mi_seekPegs 70 = .ok (.aload_n 1, 1) := by decide +kernel
theorem d_Mi_seekPegs_71 : decode c_Mi_seekPegs 71 = .ok (.iload 5, 2) := by decide +kernel
theorem d_Mi_seekPegs_73 : decode c_Mi_seekPegs 73 = .ok (.invokevirtual 121, 3) := by decide +kernel
theorem d_Mi_seekPegs_76 : decode c_Mi_seekPegs 76 = .ok (.iinc 7 1, 3) := by decide +kernel
theorem d_Mi_seekPegs_79 : decode c_Mi_seekPegs 79 = .ok (.goto (-28), 3) := by decide +kernel
theorem d_Mi_seekPegs_82 : decode c_Mi_seekPegs 82 = .ok (.iinc 6 1, 3) := by decide +kernel
theorem d_Mi_seekPegs_85 : decode c_Mi_seekPegs 85 = .ok (.goto (-44), 3) := by decide +kernel
theorem d_Mi_seekPegs_88 : decode c_Mi_seekPegs 88 = .ok (.return_, 1) := by decide +kernel
theorem d_Mi_foundPegs_0 : decode c_Mi_foundPegs 0 = .ok (.aload_n 0, 1) := by decide +kernel
theorem d_Mi_foundPegs_1 : decode c_Mi_foundPegs 1 = .ok (.getfield 114, 3) := by decide +kernel
theorem d_Mi_foundPegs_4 : decode c_Mi_foundPegs 4 = .ok (.iconst (-1), 1) := by decide +kernel
theorem d_Mi_foundPegs_5 : decode c_Mi_foundPegs 5 = .ok (.if_icmp .eq 8, 3) := by decide +kernel
theorem d_Mi_foundPegs_8 : decode c_Mi_foundPegs 8 = .ok (.iload_n 1, 1) := by decide +kernel
theorem d_Mi_foundPegs_9 : decode c_Mi_foundPegs 9 = .ok (.iconst 2, 1) := by decide +kernel
theorem d_Mi_foundPegs_10 : decode c_Mi_foundPegs 10 = .ok (.if_icmp .ne 8, 3) := by decide +kernel
theorem d_Mi_foundPegs_13 : decode c_Mi_foundPegs 13 = .ok (.aload_n 0, 1) := by decide +kernel
theorem d_Mi_foundPegs_14 : decode c_Mi_foundPegs 14 = .ok (.getfield 114, 3) := by decide +kernel
theorem d_Mi_foundPegs_17 : decode c_Mi_foundPegs 17 = .ok (.ireturn, 1) := by decide +kernel
theorem d_Mi_foundPegs_18 : decode c_Mi_foundPegs 18 = .ok (.iload_n 1, 1) := by decide +kernel
theorem d_Mi_foundPegs_19 : decode c_Mi_foundPegs 19 = .ok (.ifCond .ne 10, 3) := by decide +kernel
theorem d_Mi_foundPegs_22 : decode c_Mi_foundPegs 22 = .ok (.aload_n 0, 1) := by decide +kernel
theorem d_Mi_foundPegs_23 : decode c_Mi_foundPegs 23 = .ok (.getfield 135, 3) := by decide +kernel
theorem d_Mi_foundPegs_26 : decode c_Mi_foundPegs 26 = .ok (.goto 7, 3) := by decide +kernel
theorem d_Mi_foundPegs_29 : decode c_Mi_foundPegs 29 = .ok (.aload_n 0, 1) := by decide +kernel
theorem d_Mi_foundPegs_30 : decode c_Mi_foundPegs 30 = .ok (.getfield 141, 3) := by decide +kernel
theorem d_Mi_foundPegs_33 : decode c_Mi_foundPegs 33 = .ok (.ireturn, 1) := by decide +kernel
theorem d_GR_pegs_0 : decode c_GR_pegs 0 = .ok (.iload_n 1, 1) := by decide +kernel
theorem d_GR_pegs_1 : decode c_GR_pegs 1 = .ok (.iconst 3, 1) := by decide +kernel
theorem d_GR_pegs_2 : decode c_GR_pegs 2 = .ok (.invokestatic 67, 3) := by decide +kernel
theorem d_GR_pegs_5 : decode c_GR_pegs 5 = .ok (.ifCond .eq 30, 3) := by decide +kernel
theorem d_GR_pegs_8 : decode c_GR_pegs 8 = .ok (.iload_n 2, 1) := by decide +kernel
theorem d_GR_pegs_9 : decode c_GR_pegs 9 = .ok (.bipush 10, 2) := by decide +kernel
theorem d_GR_pegs_11 : decode c_GR_pegs 11 = .ok (.invokestatic 67, 3) := by decide +kernel
theorem d_GR_pegs_14 : decode c_GR_pegs 14 = .ok (.ifCond .eq 21, 3) := by decide +kernel
theorem d_GR_pegs_17 : decode c_GR_pegs 17 = .ok (.iload_n 3, 1) := by decide +kernel
theorem d_GR_pegs_18 : decode c_GR_pegs 18 = .ok (.bipush 10, 2) := by decide +kernel
theorem d_GR_pegs_20 : decode c_GR_pegs 20 = .ok (.invokestatic 67, 3) := by decide +kernel
theorem d_GR_pegs_23 : decode c_GR_pegs 23 = .ok (.ifCond .eq 12, 3) := by decide +kernel
theorem d_GR_pegs_26 : decode c_GR_pegs 26 = .ok (.iload 4, 2) := by decide +kernel
theorem d_GR_pegs_28 : decode c_GR_pegs 28 = .ok (.iconst 3, 1) := by decide +kernel
theorem d_GR_pegs_29 : decode c_GR_pegs 29 = .ok (.invokestatic 67, 3) := by decide +kernel
theorem d_GR_pegs_32 : decode c_GR_pegs 32 = .ok (.ifCond .ne 6, 3) := by decide +kernel
theorem d_GR_pegs_35 : decode c_GR_pegs 35 = .ok (.bipush (-2), 2) := by decide +kernel
theorem d_GR_pegs_37 : decode c_GR_pegs 37 = .ok (.ireturn, 1) := by decide +kernel
theorem d_GR_pegs_38 : decode c_GR_pegs 38 = .ok (.aload_n 0, 1) := by decide +kernel
theorem d_GR_pegs_39 : decode c_GR_pegs 39 = .ok (.getfield 49, 3) := by decide +kernel
theorem d_GR_pegs_42 : decode c_GR_pegs 42 = .ok (.aload_n 0, 1) := by decide +kernel
theorem d_GR_pegs_43 : decode c_GR_pegs 43 = .ok (.getfield 24, 3) := by decide +kernel
theorem d_GR_pegs_46 : decode c_GR_pegs 46 = .ok (.iload_n 1, 1) := by decide +kernel
theorem d_GR_pegs_47 : decode c_GR_pegs 47 = .ok (.iload_n 2, 1) := by decide +kernel
theorem d_GR_pegs_48 : decode c_GR_pegs 48 = .ok (.iload_n 3, 1) := by decide +kernel
theorem d_GR_pegs_49 : decode c_GR_pegs 49 = .ok (.aload_n 0, 1) := by decide +kernel
theorem d_GR_pegs_50 : decode c_GR_pegs 50 = .ok (.getfield 28, 3) := by decide +kernel
theorem d_GR_pegs_53 : decode c_GR_pegs 53 = .ok (.iconst 2, 1) := by decide +kernel
theorem d_GR_pegs_54 : decode c_GR_pegs 54 = .ok (.iaload, 1) := by decide +kernel
theorem d_GR_pegs_55 : decode c_GR_pegs 55 = .ok (.invokevirtual 246, 3) := by decide +kernel
theorem d_GR_pegs_58 : decode c_GR_pegs 58 = .ok (.aload_n 0, 1) := by decide +kernel
theorem d_GR_pegs_59 : decode c_GR_pegs 59 = .ok (.getfield 49, 3) := by decide +kernel
theorem d_GR_pegs_62 : decode c_GR_pegs 62 = .ok (.iload 4, 2) := by decide +kernel
theorem d_GR_pegs_64 : decode c_GR_pegs 64 = .ok (.invokevirtual 250, 3) := by decide +kernel
theorem d_GR_pegs_67 : decode c_GR_pegs 67 = .ok (.ireturn, 1) := by decide +kernel
theorem d_Fe_fareOf_0 : decode c_Fe_fareOf 0 = .ok (.aload_n 0, 1) := by decide +kernel
theorem d_Fe_fareOf_1 : decode c_Fe_fareOf 1 = .ok (.aload_n 1, 1) := by decide +kernel
theorem d_Fe_fareOf_2 : decode c_Fe_fareOf 2 = .ok (.getfield 25, 3) := by decide +kernel
theorem d_Fe_fareOf_5 : decode c_Fe_fareOf 5 = .ok (.invokevirtual 31, 3) := by decide +kernel
theorem d_Fe_fareOf_8 : decode c_Fe_fareOf 8 = .ok (.ifCond .eq 25, 3) := by decide +kernel
theorem d_Fe_fareOf_11 : decode c_Fe_fareOf 11 = .ok (.aload_n 0, 1) := by decide +kernel
theorem d_Fe_fareOf_12 : decode c_Fe_fareOf 12 = .ok (.aload_n 1, 1) := by decide +kernel
theorem d_Fe_fareOf_13 : decode c_Fe_fareOf 13 = .ok (.getfield 25, 3) := by decide +kernel
theorem d_Fe_fareOf_16 : decode c_Fe_fareOf 16 = .ok (.invokevirtual 37, 3) := by decide +kernel
theorem d_Fe_fareOf_19 : decode c_Fe_fareOf 19 = .ok (.aload_n 1, 1) := by decide +kernel
theorem d_Fe_fareOf_20 : decode c_Fe_fareOf 20 = .ok (.getfield 41, 3) := by decide +kernel
theorem d_Fe_fareOf_23 : decode c_Fe_fareOf 23 = .ok (.aload_n 1, 1) := by decide +kernel
theorem d_Fe_fareOf_24 : decode c_Fe_fareOf 24 = .ok (.getfield 44, 3) := by decide +kernel
theorem d_Fe_fareOf_27 : decode c_Fe_fareOf 27 = .ok (.invokevirtual 47, 3) := by decide +kernel
theorem d_Fe_fareOf_30 : decode c_Fe_fareOf 30 = .ok (.goto 4, 3) := by decide +kernel
theorem d_Fe_fareOf_33 : decode c_Fe_fareOf 33 = .ok (.iconst 0, 1) := by decide +kernel
theorem d_Fe_fareOf_34 : decode c_Fe_fareOf 34 = .ok (.ireturn, 1) := by decide +kernel
def f_GR_sent_28 (σ : Sg) (v1 : Int32) : Option (Int32 × Sg) :=
  (f_Mi_reckon σ (-1) (σ.1 17 2)).bind fun σ3 =>
    (f_GR_sentAsReckoned σ3 v1).bind fun r5 =>
      some (r5, σ3)
set_option maxHeartbeats 4000000 in
theorem j_GR_sent_28 {V : Vx} {X : Xx} {r : Int32} {σ' : Sg}  (σ : Sg) (v1 : Int32) (hf : f_GR_sent_28 σ v1 = some (r, σ')) : J V X (k2_rm 6 128) c_GR_sent R_GR 2 (some .int) (Qr V X (some (.int r)) σ') σ 28 [(0, rf V 0), (1, .int v1)] [] := by
  unfold f_GR_sent_28 at hf
  refine J_aload_n (pc' := 29) d_GR_sent_28 rfl 0 rfl ?_
  refine J_getR (pc' := 32) d_GR_sent_29 rfl sh_0 fl_GR_49 rfl ?_
  refine J_aload_n (pc' := 33) d_GR_sent_32 rfl 0 rfl ?_
  refine J_getR (pc' := 36) d_GR_sent_33 rfl sh_0 fl_GR_24 rfl ?_
  refine J_iconst (pc' := 37) (v := (-1)) d_GR_sent_36 rfl ic_m1 ?_
  refine J_aload_n (pc' := 38) d_GR_sent_37 rfl 0 rfl ?_
  refine J_getR (pc' := 41) d_GR_sent_38 rfl sh_0 fl_GR_28 rfl ?_
  refine J_iconst (pc' := 42) (v := 2) d_GR_sent_41 rfl ic_2 ?_
  refine J_ial (pc' := 43) d_GR_sent_42 rfl sh_17 (vin_c (by decide)) ?_
  obtain ⟨σ3, hq2, hf⟩ := bpE hf
  refine J_V (pc' := 46) (as := [rf V 5, .int (-1), .int (σ.1 17 2)]) (rest := []) (st' := []) d_GR_sent_43 rfl sh_43 rfl mv_GR_232 (ct_Mi_reckon V _ σ (-1) (σ.1 17 2) hq2) rfl rfl ⟨Nat.le_of_ble_eq_true rfl, Nat.le_of_ble_eq_true rfl⟩ ⟨rfl, rfl⟩ (Nat.le_of_ble_eq_true rfl) rfl ?_
  refine J_aload_n (pc' := 47) d_GR_sent_46 rfl 0 rfl ?_
  refine J_iload_n (pc' := 48) d_GR_sent_47 rfl 1 rfl ?_
  obtain ⟨r5, hq4, hf⟩ := bpE hf
  refine J_V (pc' := 51) (as := [.int v1]) (rest := []) (st' := [.int r5]) d_GR_sent_48 rfl sh_0 rfl mv_GR_236 (ct_GR_sentAsReckoned V _ σ3 v1 hq4) rfl rfl ⟨Nat.le_of_ble_eq_true rfl, Nat.le_of_ble_eq_true rfl⟩ ⟨rfl, rfl⟩ (Nat.le_of_ble_eq_true rfl) rfl ?_
  obtain ⟨rfl, rfl⟩ := resE hf
  exact J_iret d_GR_sent_51
def f_GR_sent (σ : Sg) (v1 : Int32) : Option (Int32 × Sg) :=
  if v1 = (-1) then
    f_GR_sent_28 σ v1
  else
    if v1 = (-2) then f_GR_sent_28 σ v1 else if (f_GR_isBelow v1 (σ.1 43 5)) = 0 then some ((-2), σ) else f_GR_sent_28 σ v1
set_option maxHeartbeats 4000000 in
theorem j_GR_sent {V : Vx} {X : Xx} {r : Int32} {σ' : Sg} (σ : Sg) (v1 : Int32) (hf : f_GR_sent σ v1 = some (r, σ')) : J V X (k2_rm 6 128) c_GR_sent R_GR 2 (some .int) (Qr V X (some (.int r)) σ') σ 0 [(0, rf V 0), (1, .int v1)] [] := by
  unfold f_GR_sent at hf
  refine J_iload_n (pc' := 1) d_GR_sent_0 rfl 1 rfl ?_
  refine J_iconst (pc' := 2) (v := (-1)) d_GR_sent_1 rfl ic_m1 ?_
  refine J_icmp_eq (pc' := 5) (tgt := 28) d_GR_sent_2 rfl (by decide) (fun hc1 => ?_) (fun hc1 => ?_)
  · have hf := brT hc1 hf
    exact j_GR_sent_28 _ _ hf
  · have hf := brF hc1 hf
    refine J_iload_n (pc' := 6) d_GR_sent_5 rfl 1 rfl ?_
    refine J_bipush (pc' := 8) (v := (-2)) d_GR_sent_6 rfl bc_m2 ?_
    refine J_icmp_eq (pc' := 11) (tgt := 28) d_GR_sent_8 rfl (by decide) (fun hc6 => ?_) (fun hc6 => ?_)
    · have hf := brT hc6 hf
      exact j_GR_sent_28 _ _ hf
    · have hf := brF hc6 hf
      refine J_iload_n (pc' := 12) d_GR_sent_11 rfl 1 rfl ?_
      refine J_aload_n (pc' := 13) d_GR_sent_12 rfl 0 rfl ?_
      refine J_getR (pc' := 16) d_GR_sent_13 rfl sh_0 fl_GR_49 rfl ?_
      refine J_getI (pc' := 19) d_GR_sent_16 rfl sh_43 fl_GR_230 rfl ?_
      refine J_S (pc' := 22) (as := [.int v1, .int (σ.1 43 5)]) (rest := []) (st' := [.int (f_GR_isBelow v1 (σ.1 43 5))]) d_GR_sent_19 rfl ms_GR_67 (ct_GR_isBelow V _ σ v1 (σ.1 43 5)) rfl rfl ⟨Nat.le_of_ble_eq_true rfl, Nat.le_of_ble_eq_true rfl⟩ ⟨rfl, rfl⟩ (Nat.le_of_ble_eq_true rfl) rfl ?_
      refine J_if_ne (pc' := 25) (tgt := 28) d_GR_sent_22 rfl (by decide) (fun hc7 => ?_) (fun hc7 => ?_)
      · have hf := brF hc7 hf
        exact j_GR_sent_28 _ _ hf
      · have hf := brT hc7 hf
        refine J_bipush (pc' := 27) (v := (-2)) d_GR_sent_25 rfl bc_m2 ?_
        obtain ⟨rfl, rfl⟩ := resE hf
        exact J_iret d_GR_sent_27
theorem ct_GR_sent (V : Vx) (l : Launch) (σ : Sg) (v1 : Int32) {r : Int32} {σ' : Sg} (hf : f_GR_sent σ v1 = some (r, σ')) : Ct V l y_GR_sent c_GR_sent 2 (some .int) (k2_rm 6 128) [rf V 0, .int v1] σ (some (.int r)) σ' := Ct.ofJ (by decide +kernel) (Nat.le_of_ble_eq_true rfl) fun X _ => j_GR_sent _ v1 hf
def f_GR_cutAsTold (σ : Sg) (v1 : Int32) : Option (Int32 × Sg) :=
  (f_Mi_reckon σ (-1) (σ.1 17 2)).bind fun σ2 =>
    (f_Mi_leastCost σ2).bind fun r4 =>
      (f_Mi_reckon σ2 v1 (σ2.1 17 2)).bind fun σ6 =>
        (f_Mi_leastCost σ6).bind fun r8 =>
          if r4 = (-1) then some ((-3), σ6) else if r8 = (-1) then some ((-3), σ6) else some (r8 - r4, σ6)
set_option maxHeartbeats 4000000 in
theorem j_GR_cutAsTold {V : Vx} {X : Xx} {r : Int32} {σ' : Sg} (σ : Sg) (v1 : Int32) (hf : f_GR_cutAsTold σ v1 = some (r, σ')) : J V X (k2_rm 4 97) c_GR_cutAsTold R_GR 4 (some .int) (Qr V X (some (.int r)) σ') σ 0 [(0, rf V 0), (1, .int v1)] [] := by
  unfold f_GR_cutAsTold at hf
  refine J_aload_n (pc' := 1) d_GR_cutAsTold_0 rfl 0 rfl ?_
  refine J_getR (pc' := 4) d_GR_cutAsTold_1 rfl sh_0 fl_GR_49 rfl ?_
  refine J_aload_n (pc' := 5) d_GR_cutAsTold_4 rfl 0 rfl ?_
  refine J_getR (pc' := 8) d_GR_cutAsTold_5 rfl sh_0 fl_GR_24 rfl ?_
  refine J_iconst (pc' := 9) (v := (-1)) d_GR_cutAsTold_8 rfl ic_m1 ?_
  refine J_aload_n (pc' := 10) d_GR_cutAsTold_9 rfl 0 rfl ?_
  refine J_getR (pc' := 13) d_GR_cutAsTold_10 rfl sh_0 fl_GR_28 rfl ?_
  refine J_iconst (pc' := 14) (v := 2) d_GR_cutAsTold_13 rfl ic_2 ?_
  refine J_ial (pc' := 15) d_GR_cutAsTold_14 rfl sh_17 (vin_c (by decide)) ?_
  obtain ⟨σ2, hq1, hf⟩ := bpE hf
  refine J_V (pc' := 18) (as := [rf V 5, .int (-1), .int (σ.1 17 2)]) (rest := []) (st' := []) d_GR_cutAsTold_15 rfl sh_43 rfl mv_GR_232 (ct_Mi_reckon V _ σ (-1) (σ.1 17 2) hq1) rfl rfl ⟨Nat.le_of_ble_eq_true rfl, Nat.le_of_ble_eq_true rfl⟩ ⟨rfl, rfl⟩ (Nat.le_of_ble_eq_true rfl) rfl ?_
  refine J_aload_n (pc' := 19) d_GR_cutAsTold_18 rfl 0 rfl ?_
  refine J_getR (pc' := 22) d_GR_cutAsTold_19 rfl sh_0 fl_GR_49 rfl ?_
  obtain ⟨r4, hq3, hf⟩ := bpE hf
  refine J_V (pc' := 25) (as := []) (rest := []) (st' := [.int r4]) d_GR_cutAsTold_22 rfl sh_43 rfl mv_GR_242 (ct_Mi_leastCost V _ σ2 hq3) rfl rfl ⟨Nat.le_of_ble_eq_true rfl, Nat.le_of_ble_eq_true rfl⟩ ⟨rfl, rfl⟩ (Nat.le_of_ble_eq_true rfl) rfl ?_
  refine J_istore_n (pc' := 26) (lv' := [(2, .int r4), (0, rf V 0), (1, .int v1)]) d_GR_cutAsTold_25 rfl rfl (by decide) rfl ?_
  refine J_aload_n (pc' := 27) d_GR_cutAsTold_26 rfl 1 rfl ?_
  refine J_getR (pc' := 30) d_GR_cutAsTold_27 rfl sh_0 fl_GR_49 rfl ?_
  refine J_aload_n (pc' := 31) d_GR_cutAsTold_30 rfl 1 rfl ?_
  refine J_getR (pc' := 34) d_GR_cutAsTold_31 rfl sh_0 fl_GR_24 rfl ?_
  refine J_iload_n (pc' := 35) d_GR_cutAsTold_34 rfl 2 rfl ?_
  refine J_aload_n (pc' := 36) d_GR_cutAsTold_35 rfl 1 rfl ?_
  refine J_getR (pc' := 39) d_GR_cutAsTold_36 rfl sh_0 fl_GR_28 rfl ?_
  refine J_iconst (pc' := 40) (v := 2) d_GR_cutAsTold_39 rfl ic_2 ?_
  refine J_ial (pc' := 41) d_GR_cutAsTold_40 rfl sh_17 (vin_c (by decide)) ?_
  obtain ⟨σ6, hq5, hf⟩ := bpE hf
  refine J_V (pc' := 44) (as := [rf V 5, .int v1, .int (σ2.1 17 2)]) (rest := []) (st' := []) d_GR_cutAsTold_41 rfl sh_43 rfl mv_GR_232 (ct_Mi_reckon V _ σ2 v1 (σ2.1 17 2) hq5) rfl rfl ⟨Nat.le_of_ble_eq_true rfl, Nat.le_of_ble_eq_true rfl⟩ ⟨rfl, rfl⟩ (Nat.le_of_ble_eq_true rfl) rfl ?_
  refine J_aload_n (pc' := 45) d_GR_cutAsTold_44 rfl 1 rfl ?_
  refine J_getR (pc' := 48) d_GR_cutAsTold_45 rfl sh_0 fl_GR_49 rfl ?_
  obtain ⟨r8, hq7, hf⟩ := bpE hf
  refine J_V (pc' := 51) (as := []) (rest := []) (st' := [.int r8]) d_GR_cutAsTold_48 rfl sh_43 rfl mv_GR_242 (ct_Mi_leastCost V _ σ6 hq7) rfl rfl ⟨Nat.le_of_ble_eq_true rfl, Nat.le_of_ble_eq_true rfl⟩ ⟨rfl, rfl⟩ (Nat.le_of_ble_eq_true rfl) rfl ?_
  refine J_istore_n (pc' := 52) (lv' := [(3, .int r8), (2, .int r4), (0, rf V 0), (1, .int v1)]) d_GR_cutAsTold_51 rfl rfl (by decide) rfl ?_
  refine J_iload_n (pc' := 53) d_GR_cutAsTold_52 rfl 1 rfl ?_
  refine J_iconst (pc' := 54) (v := (-1)) d_GR_cutAsTold_53 rfl ic_m1 ?_
  refine J_icmp_eq (pc' := 57) (tgt := 62) d_GR_cutAsTold_54 rfl (by decide) (fun hc9 => ?_) (fun hc9 => ?_)
  · have hf := brT hc9 hf
    refine J_bipush (pc' := 64) (v := (-3)) d_GR_cutAsTold_62 rfl bc_m3 ?_
    refine J_goto (tgt := 70) d_GR_cutAsTold_64 (by decide) ?_
    obtain ⟨rfl, rfl⟩ := resE hf
    exact J_iret d_GR_cutAsTold_70
  · have hf := brF hc9 hf
    refine J_iload_n (pc' := 58) d_GR_cutAsTold_57 rfl 0 rfl ?_
    refine J_iconst (pc' := 59) (v := (-1)) d_GR_cutAsTold_58 rfl ic_m1 ?_
    refine J_icmp_ne (pc' := 62) (tgt := 67) d_GR_cutAsTold_59 rfl (by decide) (fun hc10 => ?_) (fun hc10 => ?_)
    · have hf := brF hc10 hf
      refine J_iload_n (pc' := 68) d_GR_cutAsTold_67 rfl 0 rfl ?_
      refine J_iload_n (pc' := 69) d_GR_cutAsTold_68 rfl 1 rfl ?_
      refine J_isub (pc' := 70) d_GR_cutAsTold_69 rfl ?_
      obtain ⟨rfl, rfl⟩ := resE hf
      exact J_iret d_GR_cutAsTold_70
    · have hf := brT hc10 hf
      refine J_bipush (pc' := 64) (v := (-3)) d_GR_cutAsTold_62 rfl bc_m3 ?_
      refine J_goto (tgt := 70) d_GR_cutAsTold_64 (by decide) ?_
      obtain ⟨rfl, rfl⟩ := resE hf
      exact J_iret d_GR_cutAsTold_70
theorem ct_GR_cutAsTold (V : Vx) (l : Launch) (σ : Sg) (v1 : Int32) {r : Int32} {σ' : Sg} (hf : f_GR_cutAsTold σ v1 = some (r, σ')) : Ct V l y_GR_cutAsTold c_GR_cutAsTold 4 (some .int) (k2_rm 4 97) [rf V 0, .int v1] σ (some (.int r)) σ' := Ct.ofJ (by decide +kernel) (Nat.le_of_ble_eq_true rfl) fun X _ => j_GR_cutAsTold _ v1 hf
def f_GR_cut (σ : Sg) (v1 : Int32) : Option (Int32 × Sg) :=
  if (f_Rs_has σ v1) = 0 then
    some ((-2), σ)
  else
    bd (f_GR_cutAsTold σ v1) fun r4 σ3 =>
      some (r4, σ3)
set_option maxHeartbeats 4000000 in
theorem j_GR_cut {V : Vx} {X : Xx} {r : Int32} {σ' : Sg} (σ : Sg) (v1 : Int32) (hf : f_GR_cut σ v1 = some (r, σ')) : J V X (k2_rm 5 120) c_GR_cut R_GR 2 (some .int) (Qr V X (some (.int r)) σ') σ 0 [(0, rf V 0), (1, .int v1)] [] := by
  unfold f_GR_cut at hf
  refine J_aload_n (pc' := 1) d_GR_cut_0 rfl 0 rfl ?_
  refine J_getR (pc' := 4) d_GR_cut_1 rfl sh_0 fl_GR_24 rfl ?_
  refine J_iload_n (pc' := 5) d_GR_cut_4 rfl 1 rfl ?_
  refine J_V (pc' := 8) (as := [.int v1]) (rest := []) (st' := [.int (f_Rs_has σ v1)]) d_GR_cut_5 rfl sh_5 rfl mv_GR_100 (ct_Rs_has V _ σ v1) rfl rfl ⟨Nat.le_of_ble_eq_true rfl, Nat.le_of_ble_eq_true rfl⟩ ⟨rfl, rfl⟩ (Nat.le_of_ble_eq_true rfl) rfl ?_
  refine J_if_ne (pc' := 11) (tgt := 14) d_GR_cut_8 rfl (by decide) (fun hc1 => ?_) (fun hc1 => ?_)
  · have hf := brF hc1 hf
    refine J_aload_n (pc' := 15) d_GR_cut_14 rfl 0 rfl ?_
    refine J_iload_n (pc' := 16) d_GR_cut_15 rfl 1 rfl ?_
    obtain ⟨r4, σ3, hq2, hf⟩ := bdE hf
    refine J_V (pc' := 19) (as := [.int v1]) (rest := []) (st' := [.int r4]) d_GR_cut_16 rfl sh_0 rfl mv_GR_239 (ct_GR_cutAsTold V _ σ v1 hq2) rfl rfl ⟨Nat.le_of_ble_eq_true rfl, Nat.le_of_ble_eq_true rfl⟩ ⟨rfl, rfl⟩ (Nat.le_of_ble_eq_true rfl) rfl ?_
    obtain ⟨rfl, rfl⟩ := resE hf
    exact J_iret d_GR_cut_19
  · have hf := brT hc1 hf
    refine J_bipush (pc' := 13) (v := (-2)) d_GR_cut_11 rfl bc_m2 ?_
    obtain ⟨rfl, rfl⟩ := resE hf
    exact J_iret d_GR_cut_13
theorem ct_GR_cut (V : Vx) (l : Launch) (σ : Sg) (v1 : Int32) {r : Int32} {σ' : Sg} (hf : f_GR_cut σ v1 = some (r, σ')) : Ct V l y_GR_cut c_GR_cut 2 (some .int) (k2_rm 5 120) [rf V 0, .int v1] σ (some (.int r)) σ' := Ct.ofJ (by decide +kernel) (Nat.le_of_ble_eq_true rfl) fun X _ => j_GR_cut _ v1 hf
def f_GR_needed_78 (k37 : Sg → Int32 → Int32 → Int32 → Option (Int32 × Sg)) (σ : Sg) (v1 : Int32) (v2 : Int32) (v3 : Int32) : Option (Int32 × Sg) :=
  k37 σ v1 v2 (v3 + 1)
set_option maxHeartbeats 4000000 in
theorem j_GR_needed_78 {V : Vx} {X : Xx} {r : Int32} {σ' : Sg} {k37 : Sg → Int32 → Int32 → Int32 → Option (Int32 × Sg)} (hk37 : ∀ (σ : Sg) (v1 : Int32) (v2 : Int32) (v3 : Int32), k37 σ v1 v2 v3 = some (r, σ') → J V X (k2_rm 4 97) c_GR_needed R_GR 4 (some .int) (Qr V X (some (.int r)) σ') σ 37 [(0, rf V 0), (1, .int v1), (2, .int v2), (3, .int v3)] []) (σ : Sg) (v1 : Int32) (v2 : Int32) (v3 : Int32) (hf : f_GR_needed_78 k37 σ v1 v2 v3 = some (r, σ')) : J V X (k2_rm 4 97) c_GR_needed R_GR 4 (some .int) (Qr V X (some (.int r)) σ') σ 78 [(0, rf V 0), (1, .int v1), (2, .int v2), (3, .int v3)] [] := by
  unfold f_GR_needed_78 at hf
  refine J_iinc (pc' := 81) (j := 3) (v := 1) (lv' := [(3, .int (v3 + 1)), (0, rf V 0), (1, .int v1), (2, .int v2)]) d_GR_needed_78 rfl rfl ic_1 (by decide) rfl ?_
  refine J_goto (tgt := 37) d_GR_needed_81 (by decide) ?_
  refine J_pick [1, 2, 3, 0] rfl ?_
  exact hk37 _ _ _ _ hf
def f_GR_needed_37 : Nat → Sg → Int32 → Int32 → Int32 → Option (Int32 × Sg)
  | 0, _, _, _, _ => none
  | n + 1, σ, v1, v2, v3 =>
    if (σ.1 5 3) ≤ v3 then
      some (v2, σ)
    else
      (f_Mi_reckon σ v3 v1).bind fun σ8 =>
        (f_Mi_leastCost σ8).bind fun r10 =>
          if r10 = (-1) then f_GR_needed_78 (f_GR_needed_37 n) σ8 v1 (v2 ||| (1 <<< (v3 &&& 31))) v3 else f_GR_needed_78 (f_GR_needed_37 n) σ8 v1 v2 v3
theorem f_GR_needed_37_s (n : Nat) (σ : Sg) (v1 : Int32) (v2 : Int32) (v3 : Int32) : f_GR_needed_37 (n + 1) σ v1 v2 v3 =
    if (σ.1 5 3) ≤ v3 then
      some (v2, σ)
    else
      (f_Mi_reckon σ v3 v1).bind fun σ8 =>
        (f_Mi_leastCost σ8).bind fun r10 =>
          if r10 = (-1) then f_GR_needed_78 (f_GR_needed_37 n) σ8 v1 (v2 ||| (1 <<< (v3 &&& 31))) v3 else f_GR_needed_78 (f_GR_needed_37 n) σ8 v1 v2 v3 := rfl
set_option maxHeartbeats 4000000 in
theorem j_GR_needed_37 {V : Vx} {X : Xx} {r : Int32} {σ' : Sg}  : ∀ (n : Nat) (σ : Sg) (v1 : Int32) (v2 : Int32) (v3 : Int32), f_GR_needed_37 n σ v1 v2 v3 = some (r, σ') → J V X (k2_rm 4 97) c_GR_needed R_GR 4 (some .int) (Qr V X (some (.int r)) σ') σ 37 [(0, rf V 0), (1, .int v1), (2, .int v2), (3, .int v3)] [] := by
  intro n
  induction n with
  | zero => intro σ v1 v2 v3 hf; exact nn hf
  | succ n ih =>
    intro σ v1 v2 v3 hf
    rw [f_GR_needed_37_s] at hf
    refine J_iload_n (pc' := 38) d_GR_needed_37 rfl 3 rfl ?_
    refine J_aload_n (pc' := 39) d_GR_needed_38 rfl 0 rfl ?_
    refine J_getR (pc' := 42) d_GR_needed_39 rfl sh_0 fl_GR_24 rfl ?_
    refine J_getI (pc' := 45) d_GR_needed_42 rfl sh_5 fl_GR_245 rfl ?_
    refine J_icmp_ge (pc' := 48) (tgt := 84) d_GR_needed_45 rfl (by decide) (fun hc6 => ?_) (fun hc6 => ?_)
    · have hf := brT hc6 hf
      refine J_iload_n (pc' := 85) d_GR_needed_84 rfl 2 rfl ?_
      obtain ⟨rfl, rfl⟩ := resE hf
      exact J_iret d_GR_needed_85
    · have hf := brF hc6 hf
      refine J_aload_n (pc' := 49) d_GR_needed_48 rfl 0 rfl ?_
      refine J_getR (pc' := 52) d_GR_needed_49 rfl sh_0 fl_GR_49 rfl ?_
      refine J_aload_n (pc' := 53) d_GR_needed_52 rfl 0 rfl ?_
      refine J_getR (pc' := 56) d_GR_needed_53 rfl sh_0 fl_GR_24 rfl ?_
      refine J_iload_n (pc' := 57) d_GR_needed_56 rfl 3 rfl ?_
      refine J_iload_n (pc' := 58) d_GR_needed_57 rfl 1 rfl ?_
      obtain ⟨σ8, hq7, hf⟩ := bpE hf
      refine J_V (pc' := 61) (as := [rf V 5, .int v3, .int v1]) (rest := []) (st' := []) d_GR_needed_58 rfl sh_43 rfl mv_GR_232 (ct_Mi_reckon V _ σ v3 v1 hq7) rfl rfl ⟨Nat.le_of_ble_eq_true rfl, Nat.le_of_ble_eq_true rfl⟩ ⟨rfl, rfl⟩ (Nat.le_of_ble_eq_true rfl) rfl ?_
      refine J_aload_n (pc' := 62) d_GR_needed_61 rfl 0 rfl ?_
      refine J_getR (pc' := 65) d_GR_needed_62 rfl sh_0 fl_GR_49 rfl ?_
      obtain ⟨r10, hq9, hf⟩ := bpE hf
      refine J_V (pc' := 68) (as := []) (rest := []) (st' := [.int r10]) d_GR_needed_65 rfl sh_43 rfl mv_GR_242 (ct_Mi_leastCost V _ σ8 hq9) rfl rfl ⟨Nat.le_of_ble_eq_true rfl, Nat.le_of_ble_eq_true rfl⟩ ⟨rfl, rfl⟩ (Nat.le_of_ble_eq_true rfl) rfl ?_
      refine J_iconst (pc' := 69) (v := (-1)) d_GR_needed_68 rfl ic_m1 ?_
      refine J_icmp_ne (pc' := 72) (tgt := 78) d_GR_needed_69 rfl (by decide) (fun hc11 => ?_) (fun hc11 => ?_)
      · have hf := brF hc11 hf
        exact j_GR_needed_78 ih _ _ _ _ hf
      · have hf := brT hc11 hf
        refine J_iload_n (pc' := 73) d_GR_needed_72 rfl 2 rfl ?_
        refine J_iconst (pc' := 74) (v := 1) d_GR_needed_73 rfl ic_1 ?_
        refine J_iload_n (pc' := 75) d_GR_needed_74 rfl 3 rfl ?_
        refine J_ishl (pc' := 76) d_GR_needed_75 rfl ?_
        refine J_ior (pc' := 77) d_GR_needed_76 rfl ?_
        refine J_istore_n (pc' := 78) (lv' := [(2, .int (v2 ||| (1 <<< (v3 &&& 31)))), (0, rf V 0), (1, .int v1), (3, .int v3)]) d_GR_needed_77 rfl rfl (by decide) rfl ?_
        refine J_pick [1, 2, 0, 3] rfl ?_
        exact j_GR_needed_78 ih _ _ _ _ hf
def f_GR_needed (σ : Sg)  : Option (Int32 × Sg) :=
  (f_Mi_reckon σ (-1) (σ.1 17 2)).bind fun σ2 =>
    (f_Mi_leastCost σ2).bind fun r4 =>
      if r4 = (-1) then some (0, σ2) else f_GR_needed_37 FU σ2 (σ.1 17 2) 0 0
set_option maxHeartbeats 4000000 in
theorem j_GR_needed {V : Vx} {X : Xx} {r : Int32} {σ' : Sg} (σ : Sg) (hf : f_GR_needed σ = some (r, σ')) : J V X (k2_rm 4 97) c_GR_needed R_GR 4 (some .int) (Qr V X (some (.int r)) σ') σ 0 [(0, rf V 0)] [] := by
  unfold f_GR_needed at hf
  refine J_aload_n (pc' := 1) d_GR_needed_0 rfl 0 rfl ?_
  refine J_getR (pc' := 4) d_GR_needed_1 rfl sh_0 fl_GR_28 rfl ?_
  refine J_iconst (pc' := 5) (v := 2) d_GR_needed_4 rfl ic_2 ?_
  refine J_ial (pc' := 6) d_GR_needed_5 rfl sh_17 (vin_c (by decide)) ?_
  refine J_istore_n (pc' := 7) (lv' := [(1, .int (σ.1 17 2)), (0, rf V 0)]) d_GR_needed_6 rfl rfl (by decide) rfl ?_
  refine J_aload_n (pc' := 8) d_GR_needed_7 rfl 1 rfl ?_
  refine J_getR (pc' := 11) d_GR_needed_8 rfl sh_0 fl_GR_49 rfl ?_
  refine J_aload_n (pc' := 12) d_GR_needed_11 rfl 1 rfl ?_
  refine J_getR (pc' := 15) d_GR_needed_12 rfl sh_0 fl_GR_24 rfl ?_
  refine J_iconst (pc' := 16) (v := (-1)) d_GR_needed_15 rfl ic_m1 ?_
  refine J_iload_n (pc' := 17) d_GR_needed_16 rfl 0 rfl ?_
  obtain ⟨σ2, hq1, hf⟩ := bpE hf
  refine J_V (pc' := 20) (as := [rf V 5, .int (-1), .int (σ.1 17 2)]) (rest := []) (st' := []) d_GR_needed_17 rfl sh_43 rfl mv_GR_232 (ct_Mi_reckon V _ σ (-1) (σ.1 17 2) hq1) rfl rfl ⟨Nat.le_of_ble_eq_true rfl, Nat.le_of_ble_eq_true rfl⟩ ⟨rfl, rfl⟩ (Nat.le_of_ble_eq_true rfl) rfl ?_
  refine J_aload_n (pc' := 21) d_GR_needed_20 rfl 1 rfl ?_
  refine J_getR (pc' := 24) d_GR_needed_21 rfl sh_0 fl_GR_49 rfl ?_
  obtain ⟨r4, hq3, hf⟩ := bpE hf
  refine J_V (pc' := 27) (as := []) (rest := []) (st' := [.int r4]) d_GR_needed_24 rfl sh_43 rfl mv_GR_242 (ct_Mi_leastCost V _ σ2 hq3) rfl rfl ⟨Nat.le_of_ble_eq_true rfl, Nat.le_of_ble_eq_true rfl⟩ ⟨rfl, rfl⟩ (Nat.le_of_ble_eq_true rfl) rfl ?_
  refine J_iconst (pc' := 28) (v := (-1)) d_GR_needed_27 rfl ic_m1 ?_
  refine J_icmp_ne (pc' := 31) (tgt := 33) d_GR_needed_28 rfl (by decide) (fun hc5 => ?_) (fun hc5 => ?_)
  · have hf := brF hc5 hf
    refine J_iconst (pc' := 34) (v := 0) d_GR_needed_33 rfl ic_0 ?_
    refine J_istore_n (pc' := 35) (lv' := [(2, .int 0), (1, .int (σ.1 17 2)), (0, rf V 0)]) d_GR_needed_34 rfl rfl (by decide) rfl ?_
    refine J_iconst (pc' := 36) (v := 0) d_GR_needed_35 rfl ic_0 ?_
    refine J_istore_n (pc' := 37) (lv' := [(3, .int 0), (2, .int 0), (1, .int (σ.1 17 2)), (0, rf V 0)]) d_GR_needed_36 rfl rfl (by decide) rfl ?_
    refine J_pick [3, 2, 1, 0] rfl ?_
    exact j_GR_needed_37 FU _ _ _ _ hf
  · have hf := brT hc5 hf
    refine J_iconst (pc' := 32) (v := 0) d_GR_needed_31 rfl ic_0 ?_
    obtain ⟨rfl, rfl⟩ := resE hf
    exact J_iret d_GR_needed_32
theorem ct_GR_needed (V : Vx) (l : Launch) (σ : Sg) {r : Int32} {σ' : Sg} (hf : f_GR_needed σ = some (r, σ')) : Ct V l y_GR_needed c_GR_needed 4 (some .int) (k2_rm 4 97) [rf V 0] σ (some (.int r)) σ' := Ct.ofJ (by decide +kernel) (Nat.le_of_ble_eq_true rfl) fun X _ => j_GR_needed _  hf
def f_Mi_tryPegs_70 (σ : Sg) (v3 : Int32) (v4 : Int32) (s0 : Int32) : Option Sg :=
  if v3 = (-1) then
    some σ
  else
    if s0 = 0 then some σ else some (pI (pI (pI (pI σ 43 6 (σ.1 48 0)) 43 7 ((pI σ 43 6 (σ.1 48 0)).1 48 1)) 43 8 v3) 43 9 v4)
set_option maxHeartbeats 4000000 in
theorem j_Mi_tryPegs_70 {V : Vx} {X : Xx} {σ' : Sg}  (σ : Sg) (v3 : Int32) (v4 : Int32) (s0 : Int32) (hf : f_Mi_tryPegs_70 σ v3 v4 s0 = some σ') : J V X (k2_rm 3 73) c_Mi_tryPegs R_Mi 6 none (Qr V X none σ') σ 70 [(0, rf V 43), (3, .int v3), (4, .int v4)] [.int s0] := by
  unfold f_Mi_tryPegs_70 at hf
  refine J_istore (pc' := 72) (lv' := [(5, .int s0), (0, rf V 43), (3, .int v3), (4, .int v4)]) d_Mi_tryPegs_70 rfl (by decide) rfl ?_
  refine J_iload_n (pc' := 73) d_Mi_tryPegs_72 rfl 2 rfl ?_
  refine J_iconst (pc' := 74) (v := (-1)) d_Mi_tryPegs_73 rfl ic_m1 ?_
  refine J_icmp_eq (pc' := 77) (tgt := 115) d_Mi_tryPegs_74 rfl (by decide) (fun hc8 => ?_) (fun hc8 => ?_)
  · have hf := brT hc8 hf
    obtain rfl := Option.some.inj hf
    exact J_vret d_Mi_tryPegs_115
  · have hf := brF hc8 hf
    refine J_iload (pc' := 79) d_Mi_tryPegs_77 rfl 0 rfl ?_
    refine J_if_eq (pc' := 82) (tgt := 115) d_Mi_tryPegs_79 rfl (by decide) (fun hc9 => ?_) (fun hc9 => ?_)
    · have hf := brT hc9 hf
      obtain rfl := Option.some.inj hf
      exact J_vret d_Mi_tryPegs_115
    · have hf := brF hc9 hf
      refine J_aload_n (pc' := 83) d_Mi_tryPegs_82 rfl 1 rfl ?_
      refine J_aload_n (pc' := 84) d_Mi_tryPegs_83 rfl 1 rfl ?_
      refine J_getR (pc' := 87) d_Mi_tryPegs_84 rfl sh_43 fl_Mi_27 rfl ?_
      refine J_getI (pc' := 90) d_Mi_tryPegs_87 rfl sh_48 fl_Mi_132 rfl ?_
      refine J_putI (pc' := 93) d_Mi_tryPegs_90 rfl sh_43 fp_Mi_135 rfl ?_
      refine J_aload_n (pc' := 94) d_Mi_tryPegs_93 rfl 1 rfl ?_
      refine J_aload_n (pc' := 95) d_Mi_tryPegs_94 rfl 1 rfl ?_
      refine J_getR (pc' := 98) d_Mi_tryPegs_95 rfl sh_43 fl_Mi_27 rfl ?_
      refine J_getI (pc' := 101) d_Mi_tryPegs_98 rfl sh_48 fl_Mi_138 rfl ?_
      refine J_putI (pc' := 104) d_Mi_tryPegs_101 rfl sh_43 fp_Mi_141 rfl ?_
      refine J_aload_n (pc' := 105) d_Mi_tryPegs_104 rfl 1 rfl ?_
      refine J_iload_n (pc' := 106) d_Mi_tryPegs_105 rfl 2 rfl ?_
      refine J_putI (pc' := 109) d_Mi_tryPegs_106 rfl sh_43 fp_Mi_114 rfl ?_
      refine J_aload_n (pc' := 110) d_Mi_tryPegs_109 rfl 1 rfl ?_
      refine J_iload (pc' := 112) d_Mi_tryPegs_110 rfl 3 rfl ?_
      refine J_putI (pc' := 115) d_Mi_tryPegs_112 rfl sh_43 fp_Mi_129 rfl ?_
      obtain rfl := Option.some.inj hf
      exact J_vret d_Mi_tryPegs_115
def f_Mi_tryPegs_65 (σ : Sg) (v3 : Int32) (v4 : Int32) : Option Sg :=
  f_Mi_tryPegs_70 σ v3 v4 1
set_option maxHeartbeats 4000000 in
theorem j_Mi_tryPegs_65 {V : Vx} {X : Xx} {σ' : Sg}  (σ : Sg) (v3 : Int32) (v4 : Int32) (hf : f_Mi_tryPegs_65 σ v3 v4 = some σ') : J V X (k2_rm 3 73) c_Mi_tryPegs R_Mi 6 none (Qr V X none σ') σ 65 [(0, rf V 43), (3, .int v3), (4, .int v4)] [] := by
  unfold f_Mi_tryPegs_65 at hf
  refine J_iconst (pc' := 66) (v := 1) d_Mi_tryPegs_65 rfl ic_1 ?_
  refine J_goto (tgt := 70) d_Mi_tryPegs_66 (by decide) ?_
  exact j_Mi_tryPegs_70 _ _ _ _ hf
def f_Mi_tryPegs_69 (σ : Sg) (v3 : Int32) (v4 : Int32) : Option Sg :=
  f_Mi_tryPegs_70 σ v3 v4 0
set_option maxHeartbeats 4000000 in
theorem j_Mi_tryPegs_69 {V : Vx} {X : Xx} {σ' : Sg}  (σ : Sg) (v3 : Int32) (v4 : Int32) (hf : f_Mi_tryPegs_69 σ v3 v4 = some σ') : J V X (k2_rm 3 73) c_Mi_tryPegs R_Mi 6 none (Qr V X none σ') σ 69 [(0, rf V 43), (3, .int v3), (4, .int v4)] [] := by
  unfold f_Mi_tryPegs_69 at hf
  refine J_iconst (pc' := 70) (v := 0) d_Mi_tryPegs_69 rfl ic_0 ?_
  exact j_Mi_tryPegs_70 _ _ _ _ hf
def f_Mi_tryPegs (σ : Sg) (v2 : Int32) : Option Sg :=
  (f_Mi_reckonAlone σ 48 0 v2).bind fun σ2 =>
    (f_Mi_leastJoined σ2 (f_Mi_all σ2)).bind fun r4 =>
      (f_Rs_metBy σ2 48).bind fun r6 =>
        if (σ2.1 43 8) = (-1) then
          f_Mi_tryPegs_65 σ2 (f_Mi_costOf r4) r6
        else
          if (f_Mi_costOf r4) < (σ2.1 43 8) then
            f_Mi_tryPegs_65 σ2 (f_Mi_costOf r4) r6
          else
            if (f_Mi_costOf r4) = (σ2.1 43 8) then
              if (σ2.1 43 9) ≤ r6 then f_Mi_tryPegs_69 σ2 (f_Mi_costOf r4) r6 else f_Mi_tryPegs_65 σ2 (f_Mi_costOf r4) r6
            else
              f_Mi_tryPegs_69 σ2 (f_Mi_costOf r4) r6
set_option maxHeartbeats 4000000 in
theorem j_Mi_tryPegs {V : Vx} {X : Xx} {σ' : Sg} (σ : Sg) (v2 : Int32) (hf : f_Mi_tryPegs σ v2 = some σ') : J V X (k2_rm 3 73) c_Mi_tryPegs R_Mi 6 none (Qr V X none σ') σ 0 [(0, rf V 43), (1, rf V 5), (2, .int v2)] [] := by
  unfold f_Mi_tryPegs at hf
  refine J_aload_n (pc' := 1) d_Mi_tryPegs_0 rfl 0 rfl ?_
  refine J_aload_n (pc' := 2) d_Mi_tryPegs_1 rfl 0 rfl ?_
  refine J_getR (pc' := 5) d_Mi_tryPegs_2 rfl sh_43 fl_Mi_27 rfl ?_
  refine J_iconst (pc' := 6) (v := 0) d_Mi_tryPegs_5 rfl ic_0 ?_
  refine J_iload_n (pc' := 7) d_Mi_tryPegs_6 rfl 2 rfl ?_
  obtain ⟨σ2, hq1, hf⟩ := bpE hf
  refine J_V (pc' := 10) (as := [rf V 48, .int 0, .int v2]) (rest := []) (st' := []) d_Mi_tryPegs_7 rfl sh_43 rfl mv_Mi_53 (ct_Mi_reckonAlone V _ σ 48 0 v2 (isRo_48) hq1) rfl rfl ⟨Nat.le_of_ble_eq_true rfl, Nat.le_of_ble_eq_true rfl⟩ ⟨rfl, rfl⟩ (Nat.le_of_ble_eq_true rfl) rfl ?_
  refine J_aload_n (pc' := 11) d_Mi_tryPegs_10 rfl 0 rfl ?_
  refine J_aload_n (pc' := 12) d_Mi_tryPegs_11 rfl 0 rfl ?_
  refine J_V (pc' := 15) (as := []) (rest := [rf V 43]) (st' := [.int (f_Mi_all σ2), rf V 43]) d_Mi_tryPegs_12 rfl sh_43 rfl mv_Mi_88 (ct_Mi_all V _ σ2) rfl rfl ⟨Nat.le_of_ble_eq_true rfl, Nat.le_of_ble_eq_true rfl⟩ ⟨rfl, rfl⟩ (Nat.le_of_ble_eq_true rfl) rfl ?_
  obtain ⟨r4, hq3, hf⟩ := bpE hf
  refine J_V (pc' := 18) (as := [.int (f_Mi_all σ2)]) (rest := []) (st' := [.int r4]) d_Mi_tryPegs_15 rfl sh_43 rfl mv_Mi_92 (ct_Mi_leastJoined V _ σ2 (f_Mi_all σ2) hq3) rfl rfl ⟨Nat.le_of_ble_eq_true rfl, Nat.le_of_ble_eq_true rfl⟩ ⟨rfl, rfl⟩ (Nat.le_of_ble_eq_true rfl) rfl ?_
  refine J_S (pc' := 21) (as := [.int r4]) (rest := []) (st' := [.int (f_Mi_costOf r4)]) d_Mi_tryPegs_18 rfl ms_Mi_98 (ct_Mi_costOf V _ σ2 r4) rfl rfl ⟨Nat.le_of_ble_eq_true rfl, Nat.le_of_ble_eq_true rfl⟩ ⟨rfl, rfl⟩ (Nat.le_of_ble_eq_true rfl) rfl ?_
  refine J_istore_n (pc' := 22) (lv' := [(3, .int (f_Mi_costOf r4)), (0, rf V 43), (1, rf V 5), (2, .int v2)]) d_Mi_tryPegs_21 rfl rfl (by decide) rfl ?_
  refine J_aload_n (pc' := 23) d_Mi_tryPegs_22 rfl 2 rfl ?_
  refine J_aload_n (pc' := 24) d_Mi_tryPegs_23 rfl 1 rfl ?_
  refine J_getR (pc' := 27) d_Mi_tryPegs_24 rfl sh_43 fl_Mi_27 rfl ?_
  obtain ⟨r6, hq5, hf⟩ := bpE hf
  refine J_V (pc' := 30) (as := [rf V 48]) (rest := []) (st' := [.int r6]) d_Mi_tryPegs_27 rfl sh_5 rfl mv_Mi_125 (ct_Rs_metBy V _ σ2 48 (isRo_48) hq5) rfl rfl ⟨Nat.le_of_ble_eq_true rfl, Nat.le_of_ble_eq_true rfl⟩ ⟨rfl, rfl⟩ (Nat.le_of_ble_eq_true rfl) rfl ?_
  refine J_istore (pc' := 32) (lv' := [(4, .int r6), (3, .int (f_Mi_costOf r4)), (0, rf V 43), (1, rf V 5), (2, .int v2)]) d_Mi_tryPegs_30 rfl (by decide) rfl ?_
  refine J_aload_n (pc' := 33) d_Mi_tryPegs_32 rfl 2 rfl ?_
  refine J_getI (pc' := 36) d_Mi_tryPegs_33 rfl sh_43 fl_Mi_114 rfl ?_
  refine J_iconst (pc' := 37) (v := (-1)) d_Mi_tryPegs_36 rfl ic_m1 ?_
  refine J_icmp_eq (pc' := 40) (tgt := 65) d_Mi_tryPegs_37 rfl (by decide) (fun hc7 => ?_) (fun hc7 => ?_)
  · have hf := brT hc7 hf
    refine J_pick [2, 1, 0] rfl ?_
    exact j_Mi_tryPegs_65 _ _ _ hf
  · have hf := brF hc7 hf
    refine J_iload_n (pc' := 41) d_Mi_tryPegs_40 rfl 1 rfl ?_
    refine J_aload_n (pc' := 42) d_Mi_tryPegs_41 rfl 2 rfl ?_
    refine J_getI (pc' := 45) d_Mi_tryPegs_42 rfl sh_43 fl_Mi_114 rfl ?_
    refine J_icmp_lt (pc' := 48) (tgt := 65) d_Mi_tryPegs_45 rfl (by decide) (fun hc10 => ?_) (fun hc10 => ?_)
    · have hf := brT hc10 hf
      refine J_pick [2, 1, 0] rfl ?_
      exact j_Mi_tryPegs_65 _ _ _ hf
    · have hf := brF hc10 hf
      refine J_iload_n (pc' := 49) d_Mi_tryPegs_48 rfl 1 rfl ?_
      refine J_aload_n (pc' := 50) d_Mi_tryPegs_49 rfl 2 rfl ?_
      refine J_getI (pc' := 53) d_Mi_tryPegs_50 rfl sh_43 fl_Mi_114 rfl ?_
      refine J_icmp_ne (pc' := 56) (tgt := 69) d_Mi_tryPegs_53 rfl (by decide) (fun hc11 => ?_) (fun hc11 => ?_)
      · have hf := brF hc11 hf
        refine J_pick [2, 1, 0] rfl ?_
        exact j_Mi_tryPegs_69 _ _ _ hf
      · have hf := brT hc11 hf
        refine J_iload (pc' := 58) d_Mi_tryPegs_56 rfl 0 rfl ?_
        refine J_aload_n (pc' := 59) d_Mi_tryPegs_58 rfl 2 rfl ?_
        refine J_getI (pc' := 62) d_Mi_tryPegs_59 rfl sh_43 fl_Mi_129 rfl ?_
        refine J_icmp_ge (pc' := 65) (tgt := 69) d_Mi_tryPegs_62 rfl (by decide) (fun hc12 => ?_) (fun hc12 => ?_)
        · have hf := brT hc12 hf
          refine J_pick [2, 1, 0] rfl ?_
          exact j_Mi_tryPegs_69 _ _ _ hf
        · have hf := brF hc12 hf
          refine J_pick [2, 1, 0] rfl ?_
          exact j_Mi_tryPegs_65 _ _ _ hf
theorem ct_Mi_tryPegs (V : Vx) (l : Launch) (σ : Sg) (v2 : Int32) {σ' : Sg} (hf : f_Mi_tryPegs σ v2 = some σ') : Ct V l y_Mi_tryPegs c_Mi_tryPegs 6 none (k2_rm 3 73) [rf V 43, rf V 5, .int v2] σ none σ' := Ct.ofJ (by decide +kernel) (Nat.le_of_ble_eq_true rfl) fun X _ => j_Mi_tryPegs _ v2 hf
def f_Mi_seekPegs_51 (k41 : Sg → Int32 → Int32 → Option Sg) : Nat → Sg → Int32 → Int32 → Int32 → Option Sg
  | 0, _, _, _, _ => none
  | n + 1, σ, v5, v6, v7 =>
    if 10 ≤ v7 then
      k41 σ v5 (v6 + 1)
    else
      (f_Ro_hang σ 48 v6 v7).bind fun σ6 =>
        (f_Mi_tryPegs σ6 v5).bind fun σ8 =>
          f_Mi_seekPegs_51 k41 n σ8 v5 v6 (v7 + 1)
theorem f_Mi_seekPegs_51_s (k41 : Sg → Int32 → Int32 → Option Sg) (n : Nat) (σ : Sg) (v5 : Int32) (v6 : Int32) (v7 : Int32) : f_Mi_seekPegs_51 k41 (n + 1) σ v5 v6 v7 =
    if 10 ≤ v7 then
      k41 σ v5 (v6 + 1)
    else
      (f_Ro_hang σ 48 v6 v7).bind fun σ6 =>
        (f_Mi_tryPegs σ6 v5).bind fun σ8 =>
          f_Mi_seekPegs_51 k41 n σ8 v5 v6 (v7 + 1) := rfl
set_option maxHeartbeats 4000000 in
theorem j_Mi_seekPegs_51 {V : Vx} {X : Xx} {σ' : Sg} {k41 : Sg → Int32 → Int32 → Option Sg} (hk41 : ∀ (σ : Sg) (v5 : Int32) (v6 : Int32), k41 σ v5 v6 = some σ' → J V X (k2_rm 4 98) c_Mi_seekPegs R_Mi 8 none (Qr V X none σ') σ 41 [(0, rf V 43), (1, rf V 5), (5, .int v5), (6, .int v6)] []) : ∀ (n : Nat) (σ : Sg) (v5 : Int32) (v6 : Int32) (v7 : Int32), f_Mi_seekPegs_51 k41 n σ v5 v6 v7 = some σ' → J V X (k2_rm 4 98) c_Mi_seekPegs R_Mi 8 none (Qr V X none σ') σ 51 [(0, rf V 43), (1, rf V 5), (5, .int v5), (6, .int v6), (7, .int v7)] [] := by
  intro n
  induction n with
  | zero => intro σ v5 v6 v7 hf; exact nn hf
  | succ n ih =>
    intro σ v5 v6 v7 hf
    rw [f_Mi_seekPegs_51_s] at hf
    refine J_iload (pc' := 53) d_Mi_seekPegs_51 rfl 4 rfl ?_
    refine J_bipush (pc' := 55) (v := 10) d_Mi_seekPegs_53 rfl bc_10 ?_
    refine J_icmp_ge (pc' := 58) (tgt := 82) d_Mi_seekPegs_55 rfl (by decide) (fun hc4 => ?_) (fun hc4 => ?_)
    · have hf := brT hc4 hf
      refine J_iinc (pc' := 85) (j := 3) (v := 1) (lv' := [(6, .int (v6 + 1)), (0, rf V 43), (1, rf V 5), (5, .int v5), (7, .int v7)]) d_Mi_seekPegs_82 rfl rfl ic_1 (by decide) rfl ?_
      refine J_goto (tgt := 41) d_Mi_seekPegs_85 (by decide) ?_
      refine J_pick [1, 2, 3, 0] rfl ?_
      exact hk41 _ _ _ hf
    · have hf := brF hc4 hf
      refine J_aload_n (pc' := 59) d_Mi_seekPegs_58 rfl 0 rfl ?_
      refine J_getR (pc' := 62) d_Mi_seekPegs_59 rfl sh_43 fl_Mi_27 rfl ?_
      refine J_iload (pc' := 64) d_Mi_seekPegs_62 rfl 3 rfl ?_
      refine J_iload (pc' := 66) d_Mi_seekPegs_64 rfl 4 rfl ?_
      obtain ⟨σ6, hq5, hf⟩ := bpE hf
      refine J_V (pc' := 69) (as := [.int v6, .int v7]) (rest := []) (st' := []) d_Mi_seekPegs_66 rfl sh_48 rfl mv_Mi_117 (ct_Ro_hang V _ σ 48 v6 v7 (isRo_48) hq5) rfl rfl ⟨Nat.le_of_ble_eq_true rfl, Nat.le_of_ble_eq_true rfl⟩ ⟨rfl, rfl⟩ (Nat.le_of_ble_eq_true rfl) rfl ?_
      refine J_aload_n (pc' := 70) d_Mi_seekPegs_69 rfl 0 rfl ?_
      refine J_aload_n (pc' := 71) d_Mi_seekPegs_70 rfl 1 rfl ?_
      refine J_iload (pc' := 73) d_Mi_seekPegs_71 rfl 2 rfl ?_
      obtain ⟨σ8, hq7, hf⟩ := bpE hf
      refine J_V (pc' := 76) (as := [rf V 5, .int v5]) (rest := []) (st' := []) d_Mi_seekPegs_73 rfl sh_43 rfl mv_Mi_121 (ct_Mi_tryPegs V _ σ6 v5 hq7) rfl rfl ⟨Nat.le_of_ble_eq_true rfl, Nat.le_of_ble_eq_true rfl⟩ ⟨rfl, rfl⟩ (Nat.le_of_ble_eq_true rfl) rfl ?_
      refine J_iinc (pc' := 79) (j := 4) (v := 1) (lv' := [(7, .int (v7 + 1)), (0, rf V 43), (1, rf V 5), (5, .int v5), (6, .int v6)]) d_Mi_seekPegs_76 rfl rfl ic_1 (by decide) rfl ?_
      refine J_goto (tgt := 51) d_Mi_seekPegs_79 (by decide) ?_
      refine J_pick [1, 2, 3, 4, 0] rfl ?_
      exact ih _ _ _ _ hf
def f_Mi_seekPegs_41 : Nat → Sg → Int32 → Int32 → Option Sg
  | 0, _, _, _ => none
  | n + 1, σ, v5, v6 =>
    if 10 ≤ v6 then some σ else f_Mi_seekPegs_51 (f_Mi_seekPegs_41 n) FU σ v5 v6 0
theorem f_Mi_seekPegs_41_s (n : Nat) (σ : Sg) (v5 : Int32) (v6 : Int32) : f_Mi_seekPegs_41 (n + 1) σ v5 v6 =
    if 10 ≤ v6 then some σ else f_Mi_seekPegs_51 (f_Mi_seekPegs_41 n) FU σ v5 v6 0 := rfl
set_option maxHeartbeats 4000000 in
theorem j_Mi_seekPegs_41 {V : Vx} {X : Xx} {σ' : Sg}  : ∀ (n : Nat) (σ : Sg) (v5 : Int32) (v6 : Int32), f_Mi_seekPegs_41 n σ v5 v6 = some σ' → J V X (k2_rm 4 98) c_Mi_seekPegs R_Mi 8 none (Qr V X none σ') σ 41 [(0, rf V 43), (1, rf V 5), (5, .int v5), (6, .int v6)] [] := by
  intro n
  induction n with
  | zero => intro σ v5 v6 hf; exact nn hf
  | succ n ih =>
    intro σ v5 v6 hf
    rw [f_Mi_seekPegs_41_s] at hf
    refine J_iload (pc' := 43) d_Mi_seekPegs_41 rfl 3 rfl ?_
    refine J_bipush (pc' := 45) (v := 10) d_Mi_seekPegs_43 rfl bc_10 ?_
    refine J_icmp_ge (pc' := 48) (tgt := 88) d_Mi_seekPegs_45 rfl (by decide) (fun hc3 => ?_) (fun hc3 => ?_)
    · have hf := brT hc3 hf
      obtain rfl := Option.some.inj hf
      exact J_vret d_Mi_seekPegs_88
    · have hf := brF hc3 hf
      refine J_iconst (pc' := 49) (v := 0) d_Mi_seekPegs_48 rfl ic_0 ?_
      refine J_istore (pc' := 51) (lv' := [(7, .int 0), (0, rf V 43), (1, rf V 5), (5, .int v5), (6, .int v6)]) d_Mi_seekPegs_49 rfl (by decide) rfl ?_
      refine J_pick [1, 2, 3, 4, 0] rfl ?_
      exact j_Mi_seekPegs_51 ih FU _ _ _ _ hf
def f_Mi_seekPegs (σ : Sg) (v2 : Int32) (v3 : Int32) (v4 : Int32) (v5 : Int32) : Option Sg :=
  (f_Mi_reckon σ (-1) v5).bind fun σ2 =>
    f_Mi_seekPegs_41 FU (pI (pI (pI (pI σ2 48 2 v2) 48 3 v3) 48 4 v4) 43 8 (-1)) v5 0
set_option maxHeartbeats 4000000 in
theorem j_Mi_seekPegs {V : Vx} {X : Xx} {σ' : Sg} (σ : Sg) (v2 : Int32) (v3 : Int32) (v4 : Int32) (v5 : Int32) (hf : f_Mi_seekPegs σ v2 v3 v4 v5 = some σ') : J V X (k2_rm 4 98) c_Mi_seekPegs R_Mi 8 none (Qr V X none σ') σ 0 [(0, rf V 43), (1, rf V 5), (2, .int v2), (3, .int v3), (4, .int v4), (5, .int v5)] [] := by
  unfold f_Mi_seekPegs at hf
  refine J_aload_n (pc' := 1) d_Mi_seekPegs_0 rfl 0 rfl ?_
  refine J_aload_n (pc' := 2) d_Mi_seekPegs_1 rfl 1 rfl ?_
  refine J_iconst (pc' := 3) (v := (-1)) d_Mi_seekPegs_2 rfl ic_m1 ?_
  refine J_iload (pc' := 5) d_Mi_seekPegs_3 rfl 5 rfl ?_
  obtain ⟨σ2, hq1, hf⟩ := bpE hf
  refine J_V (pc' := 8) (as := [rf V 5, .int (-1), .int v5]) (rest := []) (st' := []) d_Mi_seekPegs_5 rfl sh_43 rfl mv_Mi_107 (ct_Mi_reckon V _ σ (-1) v5 hq1) rfl rfl ⟨Nat.le_of_ble_eq_true rfl, Nat.le_of_ble_eq_true rfl⟩ ⟨rfl, rfl⟩ (Nat.le_of_ble_eq_true rfl) rfl ?_
  refine J_aload_n (pc' := 9) d_Mi_seekPegs_8 rfl 0 rfl ?_
  refine J_getR (pc' := 12) d_Mi_seekPegs_9 rfl sh_43 fl_Mi_27 rfl ?_
  refine J_iload_n (pc' := 13) d_Mi_seekPegs_12 rfl 2 rfl ?_
  refine J_putI (pc' := 16) d_Mi_seekPegs_13 rfl sh_48 fp_Mi_74 rfl ?_
  refine J_aload_n (pc' := 17) d_Mi_seekPegs_16 rfl 0 rfl ?_
  refine J_getR (pc' := 20) d_Mi_seekPegs_17 rfl sh_43 fl_Mi_27 rfl ?_
  refine J_iload_n (pc' := 21) d_Mi_seekPegs_20 rfl 3 rfl ?_
  refine J_putI (pc' := 24) d_Mi_seekPegs_21 rfl sh_48 fp_Mi_76 rfl ?_
  refine J_aload_n (pc' := 25) d_Mi_seekPegs_24 rfl 0 rfl ?_
  refine J_getR (pc' := 28) d_Mi_seekPegs_25 rfl sh_43 fl_Mi_27 rfl ?_
  refine J_iload (pc' := 30) d_Mi_seekPegs_28 rfl 4 rfl ?_
  refine J_putI (pc' := 33) d_Mi_seekPegs_30 rfl sh_48 fp_Mi_111 rfl ?_
  refine J_aload_n (pc' := 34) d_Mi_seekPegs_33 rfl 0 rfl ?_
  refine J_iconst (pc' := 35) (v := (-1)) d_Mi_seekPegs_34 rfl ic_m1 ?_
  refine J_putI (pc' := 38) d_Mi_seekPegs_35 rfl sh_43 fp_Mi_114 rfl ?_
  refine J_iconst (pc' := 39) (v := 0) d_Mi_seekPegs_38 rfl ic_0 ?_
  refine J_istore (pc' := 41) (lv' := [(6, .int 0), (0, rf V 43), (1, rf V 5), (2, .int v2), (3, .int v3), (4, .int v4), (5, .int v5)]) d_Mi_seekPegs_39 rfl (by decide) rfl ?_
  refine J_pick [1, 2, 6, 0] rfl ?_
  exact j_Mi_seekPegs_41 FU _ _ _ hf
theorem ct_Mi_seekPegs (V : Vx) (l : Launch) (σ : Sg) (v2 : Int32) (v3 : Int32) (v4 : Int32) (v5 : Int32) {σ' : Sg} (hf : f_Mi_seekPegs σ v2 v3 v4 v5 = some σ') : Ct V l y_Mi_seekPegs c_Mi_seekPegs 8 none (k2_rm 4 98) [rf V 43, rf V 5, .int v2, .int v3, .int v4, .int v5] σ none σ' := Ct.ofJ (by decide +kernel) (Nat.le_of_ble_eq_true rfl) fun X _ => j_Mi_seekPegs _ v2 v3 v4 v5 hf
def f_Mi_foundPegs (σ : Sg) (v1 : Int32) : Int32 :=
  if (σ.1 43 8) = (-1) then σ.1 43 8 else if v1 = 2 then σ.1 43 8 else if v1 = 0 then σ.1 43 6 else σ.1 43 7
set_option maxHeartbeats 4000000 in
theorem j_Mi_foundPegs {V : Vx} {X : Xx} {r : Int32} (σ : Sg) (v1 : Int32) (hf : f_Mi_foundPegs σ v1 = r) : J V X (k2_rm 0 0) c_Mi_foundPegs R_Mi 2 (some .int) (Qr V X (some (.int r)) σ) σ 0 [(0, rf V 43), (1, .int v1)] [] := by
  unfold f_Mi_foundPegs at hf
  refine J_aload_n (pc' := 1) d_Mi_foundPegs_0 rfl 0 rfl ?_
  refine J_getI (pc' := 4) d_Mi_foundPegs_1 rfl sh_43 fl_Mi_114 rfl ?_
  refine J_iconst (pc' := 5) (v := (-1)) d_Mi_foundPegs_4 rfl ic_m1 ?_
  refine J_icmp_eq (pc' := 8) (tgt := 13) d_Mi_foundPegs_5 rfl (by decide) (fun hc1 => ?_) (fun hc1 => ?_)
  · have hf := brT hc1 hf
    refine J_aload_n (pc' := 14) d_Mi_foundPegs_13 rfl 0 rfl ?_
    refine J_getI (pc' := 17) d_Mi_foundPegs_14 rfl sh_43 fl_Mi_114 rfl ?_
    subst hf
    exact J_iret d_Mi_foundPegs_17
  · have hf := brF hc1 hf
    refine J_iload_n (pc' := 9) d_Mi_foundPegs_8 rfl 1 rfl ?_
    refine J_iconst (pc' := 10) (v := 2) d_Mi_foundPegs_9 rfl ic_2 ?_
    refine J_icmp_ne (pc' := 13) (tgt := 18) d_Mi_foundPegs_10 rfl (by decide) (fun hc2 => ?_) (fun hc2 => ?_)
    · have hf := brF hc2 hf
      refine J_iload_n (pc' := 19) d_Mi_foundPegs_18 rfl 1 rfl ?_
      refine J_if_ne (pc' := 22) (tgt := 29) d_Mi_foundPegs_19 rfl (by decide) (fun hc3 => ?_) (fun hc3 => ?_)
      · have hf := brF hc3 hf
        refine J_aload_n (pc' := 30) d_Mi_foundPegs_29 rfl 0 rfl ?_
        refine J_getI (pc' := 33) d_Mi_foundPegs_30 rfl sh_43 fl_Mi_141 rfl ?_
        subst hf
        exact J_iret d_Mi_foundPegs_33
      · have hf := brT hc3 hf
        refine J_aload_n (pc' := 23) d_Mi_foundPegs_22 rfl 0 rfl ?_
        refine J_getI (pc' := 26) d_Mi_foundPegs_23 rfl sh_43 fl_Mi_135 rfl ?_
        refine J_goto (tgt := 33) d_Mi_foundPegs_26 (by decide) ?_
        subst hf
        exact J_iret d_Mi_foundPegs_33
    · have hf := brT hc2 hf
      refine J_aload_n (pc' := 14) d_Mi_foundPegs_13 rfl 0 rfl ?_
      refine J_getI (pc' := 17) d_Mi_foundPegs_14 rfl sh_43 fl_Mi_114 rfl ?_
      subst hf
      exact J_iret d_Mi_foundPegs_17
theorem ct_Mi_foundPegs (V : Vx) (l : Launch) (σ : Sg) (v1 : Int32) : Ct V l y_Mi_foundPegs c_Mi_foundPegs 2 (some .int) (k2_rm 0 0) [rf V 43, .int v1] σ (some (.int (f_Mi_foundPegs σ v1))) σ := Ct.ofJ (by decide +kernel) (Nat.le_of_ble_eq_true rfl) fun X _ => j_Mi_foundPegs _ v1 rfl
def f_GR_pegs (σ : Sg) (v1 : Int32) (v2 : Int32) (v3 : Int32) (v4 : Int32) : Option (Int32 × Sg) :=
  if (f_GR_isBelow v1 3) = 0 then
    some ((-2), σ)
  else
    if (f_GR_isBelow v2 10) = 0 then
      some ((-2), σ)
    else
      if (f_GR_isBelow v3 10) = 0 then
        some ((-2), σ)
      else
        if (f_GR_isBelow v4 3) = 0 then
          some ((-2), σ)
        else
          (f_Mi_seekPegs σ v1 v2 v3 (σ.1 17 2)).bind fun σ6 =>
            some (f_Mi_foundPegs σ6 v4, σ6)
set_option maxHeartbeats 4000000 in
theorem j_GR_pegs {V : Vx} {X : Xx} {r : Int32} {σ' : Sg} (σ : Sg) (v1 : Int32) (v2 : Int32) (v3 : Int32) (v4 : Int32) (hf : f_GR_pegs σ v1 v2 v3 v4 = some (r, σ')) : J V X (k2_rm 5 125) c_GR_pegs R_GR 5 (some .int) (Qr V X (some (.int r)) σ') σ 0 [(0, rf V 0), (1, .int v1), (2, .int v2), (3, .int v3), (4, .int v4)] [] := by
  unfold f_GR_pegs at hf
  refine J_iload_n (pc' := 1) d_GR_pegs_0 rfl 1 rfl ?_
  refine J_iconst (pc' := 2) (v := 3) d_GR_pegs_1 rfl ic_3 ?_
  refine J_S (pc' := 5) (as := [.int v1, .int 3]) (rest := []) (st' := [.int (f_GR_isBelow v1 3)]) d_GR_pegs_2 rfl ms_GR_67 (ct_GR_isBelow V _ σ v1 3) rfl rfl ⟨Nat.le_of_ble_eq_true rfl, Nat.le_of_ble_eq_true rfl⟩ ⟨rfl, rfl⟩ (Nat.le_of_ble_eq_true rfl) rfl ?_
  refine J_if_eq (pc' := 8) (tgt := 35) d_GR_pegs_5 rfl (by decide) (fun hc1 => ?_) (fun hc1 => ?_)
  · have hf := brT hc1 hf
    refine J_bipush (pc' := 37) (v := (-2)) d_GR_pegs_35 rfl bc_m2 ?_
    obtain ⟨rfl, rfl⟩ := resE hf
    exact J_iret d_GR_pegs_37
  · have hf := brF hc1 hf
    refine J_iload_n (pc' := 9) d_GR_pegs_8 rfl 2 rfl ?_
    refine J_bipush (pc' := 11) (v := 10) d_GR_pegs_9 rfl bc_10 ?_
    refine J_S (pc' := 14) (as := [.int v2, .int 10]) (rest := []) (st' := [.int (f_GR_isBelow v2 10)]) d_GR_pegs_11 rfl ms_GR_67 (ct_GR_isBelow V _ σ v2 10) rfl rfl ⟨Nat.le_of_ble_eq_true rfl, Nat.le_of_ble_eq_true rfl⟩ ⟨rfl, rfl⟩ (Nat.le_of_ble_eq_true rfl) rfl ?_
    refine J_if_eq (pc' := 17) (tgt := 35) d_GR_pegs_14 rfl (by decide) (fun hc2 => ?_) (fun hc2 => ?_)
    · have hf := brT hc2 hf
      refine J_bipush (pc' := 37) (v := (-2)) d_GR_pegs_35 rfl bc_m2 ?_
      obtain ⟨rfl, rfl⟩ := resE hf
      exact J_iret d_GR_pegs_37
    · have hf := brF hc2 hf
      refine J_iload_n (pc' := 18) d_GR_pegs_17 rfl 3 rfl ?_
      refine J_bipush (pc' := 20) (v := 10) d_GR_pegs_18 rfl bc_10 ?_
      refine J_S (pc' := 23) (as := [.int v3, .int 10]) (rest := []) (st' := [.int (f_GR_isBelow v3 10)]) d_GR_pegs_20 rfl ms_GR_67 (ct_GR_isBelow V _ σ v3 10) rfl rfl ⟨Nat.le_of_ble_eq_true rfl, Nat.le_of_ble_eq_true rfl⟩ ⟨rfl, rfl⟩ (Nat.le_of_ble_eq_true rfl) rfl ?_
      refine J_if_eq (pc' := 26) (tgt := 35) d_GR_pegs_23 rfl (by decide) (fun hc3 => ?_) (fun hc3 => ?_)
      · have hf := brT hc3 hf
        refine J_bipush (pc' := 37) (v := (-2)) d_GR_pegs_35 rfl bc_m2 ?_
        obtain ⟨rfl, rfl⟩ := resE hf
        exact J_iret d_GR_pegs_37
      · have hf := brF hc3 hf
        refine J_iload (pc' := 28) d_GR_pegs_26 rfl 4 rfl ?_
        refine J_iconst (pc' := 29) (v := 3) d_GR_pegs_28 rfl ic_3 ?_
        refine J_S (pc' := 32) (as := [.int v4, .int 3]) (rest := []) (st' := [.int (f_GR_isBelow v4 3)]) d_GR_pegs_29 rfl ms_GR_67 (ct_GR_isBelow V _ σ v4 3) rfl rfl ⟨Nat.le_of_ble_eq_true rfl, Nat.le_of_ble_eq_true rfl⟩ ⟨rfl, rfl⟩ (Nat.le_of_ble_eq_true rfl) rfl ?_
        refine J_if_ne (pc' := 35) (tgt := 38) d_GR_pegs_32 rfl (by decide) (fun hc4 => ?_) (fun hc4 => ?_)
        · have hf := brF hc4 hf
          refine J_aload_n (pc' := 39) d_GR_pegs_38 rfl 0 rfl ?_
          refine J_getR (pc' := 42) d_GR_pegs_39 rfl sh_0 fl_GR_49 rfl ?_
          refine J_aload_n (pc' := 43) d_GR_pegs_42 rfl 0 rfl ?_
          refine J_getR (pc' := 46) d_GR_pegs_43 rfl sh_0 fl_GR_24 rfl ?_
          refine J_iload_n (pc' := 47) d_GR_pegs_46 rfl 1 rfl ?_
          refine J_iload_n (pc' := 48) d_GR_pegs_47 rfl 2 rfl ?_
          refine J_iload_n (pc' := 49) d_GR_pegs_48 rfl 3 rfl ?_
          refine J_aload_n (pc' := 50) d_GR_pegs_49 rfl 0 rfl ?_
          refine J_getR (pc' := 53) d_GR_pegs_50 rfl sh_0 fl_GR_28 rfl ?_
          refine J_iconst (pc' := 54) (v := 2) d_GR_pegs_53 rfl ic_2 ?_
          refine J_ial (pc' := 55) d_GR_pegs_54 rfl sh_17 (vin_c (by decide)) ?_
          obtain ⟨σ6, hq5, hf⟩ := bpE hf
          refine J_V (pc' := 58) (as := [rf V 5, .int v1, .int v2, .int v3, .int (σ.1 17 2)]) (rest := []) (st' := []) d_GR_pegs_55 rfl sh_43 rfl mv_GR_246 (ct_Mi_seekPegs V _ σ v1 v2 v3 (σ.1 17 2) hq5) rfl rfl ⟨Nat.le_of_ble_eq_true rfl, Nat.le_of_ble_eq_true rfl⟩ ⟨rfl, rfl⟩ (Nat.le_of_ble_eq_true rfl) rfl ?_
          refine J_aload_n (pc' := 59) d_GR_pegs_58 rfl 0 rfl ?_
          refine J_getR (pc' := 62) d_GR_pegs_59 rfl sh_0 fl_GR_49 rfl ?_
          refine J_iload (pc' := 64) d_GR_pegs_62 rfl 4 rfl ?_
          refine J_V (pc' := 67) (as := [.int v4]) (rest := []) (st' := [.int (f_Mi_foundPegs σ6 v4)]) d_GR_pegs_64 rfl sh_43 rfl mv_GR_250 (ct_Mi_foundPegs V _ σ6 v4) rfl rfl ⟨Nat.le_of_ble_eq_true rfl, Nat.le_of_ble_eq_true rfl⟩ ⟨rfl, rfl⟩ (Nat.le_of_ble_eq_true rfl) rfl ?_
          obtain ⟨rfl, rfl⟩ := resE hf
          exact J_iret d_GR_pegs_67
        · have hf := brT hc4 hf
          refine J_bipush (pc' := 37) (v := (-2)) d_GR_pegs_35 rfl bc_m2 ?_
          obtain ⟨rfl, rfl⟩ := resE hf
          exact J_iret d_GR_pegs_37
theorem ct_GR_pegs (V : Vx) (l : Launch) (σ : Sg) (v1 : Int32) (v2 : Int32) (v3 : Int32) (v4 : Int32) {r : Int32} {σ' : Sg} (hf : f_GR_pegs σ v1 v2 v3 v4 = some (r, σ')) : Ct V l y_GR_pegs c_GR_pegs 5 (some .int) (k2_rm 5 125) [rf V 0, .int v1, .int v2, .int v3, .int v4] σ (some (.int r)) σ' := Ct.ofJ (by decide +kernel) (Nat.le_of_ble_eq_true rfl) fun X _ => j_GR_pegs _ v1 v2 v3 v4 hf
def f_Fe_fareOf (σ : Sg) (v1 : Nat) : Int32 :=
  if (f_Rs_has σ (σ.1 v1 0)) = 0 then 0 else f_Ro_fare σ (f_Rs_at (σ.1 v1 0)) (σ.1 v1 1) (σ.1 v1 3)
set_option maxHeartbeats 4000000 in
theorem j_Fe_fareOf {V : Vx} {X : Xx} {r : Int32} (σ : Sg) (v1 : Nat) (iv1 : is_Tr v1) (hf : f_Fe_fareOf σ v1 = r) : J V X (k2_rm 2 43) c_Fe_fareOf R_Fe 2 (some .int) (Qr V X (some (.int r)) σ) σ 0 [(0, rf V 5), (1, rf V v1)] [] := by
  unfold f_Fe_fareOf at hf
  refine J_aload_n (pc' := 1) d_Fe_fareOf_0 rfl 0 rfl ?_
  refine J_aload_n (pc' := 2) d_Fe_fareOf_1 rfl 1 rfl ?_
  refine J_getI (pc' := 5) d_Fe_fareOf_2 rfl (sh_Tr iv1) fl_Fe_25 rfl ?_
  refine J_V (pc' := 8) (as := [.int (σ.1 v1 0)]) (rest := []) (st' := [.int (f_Rs_has σ (σ.1 v1 0))]) d_Fe_fareOf_5 rfl sh_5 rfl mv_Fe_31 (ct_Rs_has V _ σ (σ.1 v1 0)) rfl rfl ⟨Nat.le_of_ble_eq_true rfl, Nat.le_of_ble_eq_true rfl⟩ ⟨rfl, rfl⟩ (Nat.le_of_ble_eq_true rfl) rfl ?_
  refine J_if_eq (pc' := 11) (tgt := 33) d_Fe_fareOf_8 rfl (by decide) (fun hc1 => ?_) (fun hc1 => ?_)
  · have hf := brT hc1 hf
    refine J_iconst (pc' := 34) (v := 0) d_Fe_fareOf_33 rfl ic_0 ?_
    subst hf
    exact J_iret d_Fe_fareOf_34
  · have hf := brF hc1 hf
    refine J_aload_n (pc' := 12) d_Fe_fareOf_11 rfl 0 rfl ?_
    refine J_aload_n (pc' := 13) d_Fe_fareOf_12 rfl 1 rfl ?_
    refine J_getI (pc' := 16) d_Fe_fareOf_13 rfl (sh_Tr iv1) fl_Fe_25 rfl ?_
    refine J_V (pc' := 19) (as := [.int (σ.1 v1 0)]) (rest := []) (st' := [rf V (f_Rs_at (σ.1 v1 0))]) d_Fe_fareOf_16 rfl sh_5 rfl mv_Fe_37 (ct_Rs_at V _ σ (σ.1 v1 0)) rfl rfl ⟨Nat.le_of_ble_eq_true rfl, Nat.le_of_ble_eq_true rfl⟩ ⟨rfl, rfl⟩ (Nat.le_of_ble_eq_true rfl) rfl ?_
    refine J_aload_n (pc' := 20) d_Fe_fareOf_19 rfl 1 rfl ?_
    refine J_getI (pc' := 23) d_Fe_fareOf_20 rfl (sh_Tr iv1) fl_Fe_41 rfl ?_
    refine J_aload_n (pc' := 24) d_Fe_fareOf_23 rfl 1 rfl ?_
    refine J_getI (pc' := 27) d_Fe_fareOf_24 rfl (sh_Tr iv1) fl_Fe_44 rfl ?_
    refine J_V (pc' := 30) (as := [.int (σ.1 v1 1), .int (σ.1 v1 3)]) (rest := []) (st' := [.int (f_Ro_fare σ (f_Rs_at (σ.1 v1 0)) (σ.1 v1 1) (σ.1 v1 3))]) d_Fe_fareOf_27 rfl (sh_Ro (is_Rs_at (σ.1 v1 0))) rfl mv_Fe_47 (ct_Ro_fare V _ σ (f_Rs_at (σ.1 v1 0)) (σ.1 v1 1) (σ.1 v1 3) (is_Rs_at (σ.1 v1 0))) rfl rfl ⟨Nat.le_of_ble_eq_true rfl, Nat.le_of_ble_eq_true rfl⟩ ⟨rfl, rfl⟩ (Nat.le_of_ble_eq_true rfl) rfl ?_
    refine J_goto (tgt := 34) d_Fe_fareOf_30 (by decide) ?_
    subst hf
    exact J_iret d_Fe_fareOf_34
theorem ct_Fe_fareOf (V : Vx) (l : Launch) (σ : Sg) (v1 : Nat) (iv1 : is_Tr v1) : Ct V l y_Fe_fareOf c_Fe_fareOf 2 (some .int) (k2_rm 2 43) [rf V 5, rf V v1] σ (some (.int (f_Fe_fareOf σ v1))) σ := Ct.ofJ (by decide +kernel) (Nat.le_of_ble_eq_true rfl) fun X _ => j_Fe_fareOf _ v1 iv1 rfl
