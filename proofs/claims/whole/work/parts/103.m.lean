theorem d_Sh_item_0 : decode c_Sh_item 0 = .ok (.iload_n 1, 1) := by decide +kernel
theorem d_Sh_item_1 : decode c_Sh_item 1 = .ok (.bipush 60, 2) := by decide +kernel
theorem d_Sh_item_3 : decode c_Sh_item 3 = .ok (.invokestatic 31, 3) := by decide +kernel
theorem d_Sh_item_6 : decode c_Sh_item 6 = .ok (.ifCond .eq 12, 3) := by decide +kernel
theorem d_Sh_item_9 : decode c_Sh_item 9 = .ok (.aload_n 0, 1) := by decide +kernel
theorem d_Sh_item_10 : decode c_Sh_item 10 = .ok (.getfield 9, 3) := by decide +kernel
theorem d_Sh_item_13 : decode c_Sh_item 13 = .ok (.iload_n 1, 1) := by decide +kernel
theorem d_Sh_item_14 : decode c_Sh_item 14 = .ok (.iaload, 1) := by decide +kernel
theorem d_Sh_item_15 : decode c_Sh_item 15 = .ok (.goto 4, 3) := by decide +kernel
theorem d_Sh_item_18 : decode c_Sh_item 18 = .ok (.iconst 0, 1) := by decide +kernel
theorem d_Sh_item_19 : decode c_Sh_item 19 = .ok (.ireturn, 1) := by decide +kernel
theorem d_Ss_find_0 : decode c_Ss_find 0 = .ok (.aload_n 0, 1) := by decide +kernel
theorem d_Ss_find_1 : decode c_Ss_find 1 = .ok (.iload_n 1, 1) := by decide +kernel
theorem d_Ss_find_2 : decode c_Ss_find 2 = .ok (.putfield 26, 3) := by decide +kernel
theorem d_Ss_find_5 : decode c_Ss_find 5 = .ok (.bipush (-10), 2) := by decide +kernel
theorem d_Ss_find_7 : decode c_Ss_find 7 = .ok (.iload_n 1, 1) := by decide +kernel
theorem d_Ss_find_8 : decode c_Ss_find 8 = .ok (.isub, 1) := by decide +kernel
theorem d_Ss_find_9 : decode c_Ss_find 9 = .ok (.ireturn, 1) := by decide +kernel
theorem d_GR_read_0 : decode c_GR_read 0 = .ok (.iload_n 1, 1) := by decide +kernel
theorem d_GR_read_1 : decode c_GR_read 1 = .ok (.iconst 4, 1) := by decide +kernel
theorem d_GR_read_2 : decode c_GR_read 2 = .ok (.invokestatic 67, 3) := by decide +kernel
theorem d_GR_read_5 : decode c_GR_read 5 = .ok (.ifCond .eq 11, 3) := by decide +kernel
theorem d_GR_read_8 : decode c_GR_read 8 = .ok (.iload_n 2, 1) := by decide +kernel
theorem d_GR_read_9 : decode c_GR_read 9 = .ok (.iconst 5, 1) := by decide +kernel
theorem d_GR_read_10 : decode c_GR_read 10 = .ok (.invokestatic 67, 3) := by decide +kernel
theorem d_GR_read_13 : decode c_GR_read 13 = .ok (.ifCond .ne 6, 3) := by decide +kernel
theorem d_GR_read_16 : decode c_GR_read 16 = .ok (.bipush (-2), 2) := by decide +kernel
theorem d_GR_read_18 : decode c_GR_read 18 = .ok (.ireturn, 1) := by decide +kernel
theorem d_GR_read_19 : decode c_GR_read 19 = .ok (.aload_n 0, 1) := by decide +kernel
theorem d_GR_read_20 : decode c_GR_read 20 = .ok (.getfield 63, 3) := by decide +kernel
theorem d_GR_read_23 : decode c_GR_read 23 = .ok (.iload_n 1, 1) := by decide +kernel
theorem d_GR_read_24 : decode c_GR_read 24 = .ok (.invokevirtual 157, 3) := by decide +kernel
theorem d_GR_read_27 : decode c_GR_read 27 = .ok (.astore_n 3, 1) := by decide +kernel
theorem d_GR_read_28 : decode c_GR_read 28 = .ok (.aload_n 3, 1) := by decide +kernel
theorem d_GR_read_29 : decode c_GR_read 29 = .ok (.invokevirtual 160, 3) := by decide +kernel
theorem d_GR_read_32 : decode c_GR_read 32 = .ok (.ifCond .eq 12, 3) := by decide +kernel
theorem d_GR_read_35 : decode c_GR_read 35 = .ok (.aload_n 0, 1) := by decide +kernel
theorem d_GR_read_36 : decode c_GR_read 36 = .ok (.getfield 63, 3) := by decide +kernel
theorem d_GR_read_39 : decode c_GR_read 39 = .ok (.iconst 1, 1) := by decide +kernel
theorem d_GR_read_40 : decode c_GR_read 40 = .ok (.invokevirtual 165, 3) := by decide +kernel
theorem d_GR_read_43 : decode c_GR_read 43 = .ok (.ireturn, 1) := by decide +kernel
theorem d_GR_read_44 : decode c_GR_read 44 = .ok (.iconst 0, 1) := by decide +kernel
theorem d_GR_read_45 : decode c_GR_read 45 = .ok (.istore 4, 2) := by decide +kernel
theorem d_GR_read_47 : decode c_GR_read 47 = .ok (.iconst 0, 1) := by decide +kernel
theorem d_GR_read_48 : decode c_GR_read 48 = .ok (.istore 5, 2) := by decide +kernel
theorem d_GR_read_50 : decode c_GR_read 50 = .ok (.iload 5, 2) := by decide +kernel
theorem d_GR_read_52 : decode c_GR_read 52 = .ok (.iconst 4, 1) := by decide +kernel
theorem d_GR_read_53 : decode c_GR_read 53 = .ok (.iadd, 1) := by decide +kernel
theorem d_GR_read_54 : decode c_GR_read 54 = .ok (.aload_n 3, 1) := by decide +kernel
theorem d_GR_read_55 : decode c_GR_read 55 = .ok (.getfield 168, 3) := by decide +kernel
theorem d_GR_read_58 : decode c_GR_read 58 = .ok (.if_icmp .gt 99, 3) := by decide +kernel
theorem d_GR_read_61 : decode c_GR_read 61 = .ok (.aload_n 0, 1) := by decide +kernel
theorem d_GR_read_62 : decode c_GR_read 62 = .ok (.getfield 35, 3) := by decide +kernel
theorem d_GR_read_65 : decode c_GR_read 65 = .ok (.invokevirtual 150, 3) := by decide +kernel
theorem d_GR_read_68 : decode c_GR_read 68 = .ok (.ifCond .ne 89, 3) := by decide +kernel
theorem d_GR_read_71 : decode c_GR_read 71 = .ok (.aload_n 3, 1) := by decide +kernel
theorem d_GR_read_72 : decode c_GR_read 72 = .ok (.iload 5, 2) := by decide +kernel
theorem d_GR_read_74 : decode c_GR_read 74 = .ok (.invokevirtual 169, 3) := by decide +kernel
theorem d_GR_read_77 : decode c_GR_read 77 = .ok (.aload_n 3, 1) := by decide +kernel
theorem d_GR_read_78 : decode c_GR_read 78 = .ok (.iload 5, 2) := by decide +kernel
theorem d_GR_read_80 : decode c_GR_read 80 = .ok (.iconst 1, 1) := by decide +kernel
theorem d_GR_read_81 : decode c_GR_read 81 = .ok (.iadd, 1) := by decide +kernel
theorem d_GR_read_82 : decode c_GR_read 82 = .ok (.invokevirtual 169, 3) := by decide +kernel
theorem d_GR_read_85 : decode c_GR_read 85 = .ok (.aload_n 3, 1) := by decide +kernel
theorem d_GR_read_86 : decode c_GR_read 86 = .ok (.iload 5, 2) := by decide +kernel
theorem d_GR_read_88 : decode c_GR_read 88 = .ok (.iconst 2, 1) := by decide +kernel
theorem d_GR_read_89 : decode c_GR_read 89 = .ok (.iadd, 1) := by decide +kernel
theorem d_GR_read_90 : decode c_GR_read 90 = .ok (.invokevirtual 169, 3) := by decide +kernel
theorem d_GR_read_93 : decode c_GR_read 93 = .ok (.aload_n 3, 1) := by decide +kernel
theorem d_GR_read_94 : decode c_GR_read 94 = .ok (.iload 5, 2) := by decide +kernel
theorem d_GR_read_96 : decode c_GR_read 96 = .ok (.iconst 3, 1) := by decide +kernel
theorem d_GR_read_97 : decode c_GR_read 97 = .ok (.iadd, 1) := by decide +kernel
theorem d_GR_read_98 : decode c_GR_read 98 = .ok (.invokevirtual 169, 3) := by decide +kernel
theorem d_GR_read_101 : decode c_GR_read 101 = .ok (.invokestatic 146, 3) := by decide +kernel
theorem d_GR_read_104 : decode c_GR_read 104 = .ok (.ifCond .ne 6, 3) := by decide +kernel
theorem d_GR_read_107 : decode c_GR_read 107 = .ok (.goto 50, 3) := by decide +kernel
theorem d_GR_read_110 : decode c_GR_read 110 = .ok (.aload_n 0, 1) := by decide +kernel
theorem d_GR_read_111 : decode c_GR_read 111 = .ok (.getfield 35, 3) := by decide +kernel
theorem d_GR_read_114 : decode c_GR_read 114 = .ok (.aload_n 3, 1) := by decide +kernel
theorem d_GR_read_115 : decode c_GR_read 115 = .ok (.iload 5, 2) := by decide +kernel
theorem d_GR_read_117 : decode c_GR_read 117 = .ok (.invokevirtual 169, 3) := by decide +kernel
theorem d_GR_read_120 : decode c_GR_read 120 = .ok (.aload_n 3, 1) := by decide +kernel
theorem d_GR_read_121 : decode c_GR_read 121 = .ok (.iload 5, 2) := by decide +kernel
theorem d_GR_read_123 : decode c_GR_read 123 = .ok (.iconst 1, 1) := by decide +kernel
theorem d_GR_read_124 : decode c_GR_read 124 = .ok (.iadd, 1) := by decide +kernel
theorem d_GR_read_125 : decode c_GR_read 125 = .ok (.invokevirtual 169, 3) := by decide +kernel
theorem d_GR_read_128 : decode c_GR_read 128 = .ok (.aload_n 3, 1) := by decide +kernel
theorem d_GR_read_129 : decode c_GR_read 129 = .ok (.iload 5, 2) := by decide +kernel
theorem d_GR_read_131 : decode c_GR_read 131 = .ok (.iconst 2, 1) := by decide +kernel
theorem d_GR_read_132 : decode c_GR_read 132 = .ok (.iadd, 1) := by decide +kernel
theorem d_GR_read_133 : decode c_GR_read 133 = .ok (.invokevirtual 169, 3) := by decide +kernel
theorem d_GR_read_136 : decode c_GR_read 136 = .ok (.aload_n 3, 1) := by decide +kernel
theorem d_GR_read_137 : decode c_GR_read 137 = .ok (.iload 5, 2) := by decide +kernel
theorem d_GR_read_139 : decode c_GR_read 139 = .ok (.iconst 3, 1) := by decide +kernel
theorem d_GR_read_140 : decode c_GR_read 140 = .ok (.iadd, 1) := by decide +kernel
theorem d_GR_read_141 : decode c_GR_read 141 = .ok (.invokevirtual 169, 3) := by decide +kernel
theorem d_GR_read_144 : decode c_GR_read 144 = .ok (.iload_n 2, 1) := by decide +kernel
theorem d_GR_read_145 : decode c_GR_read 145 = .ok (.invokevirtual 151, 3) := by decide +kernel
theorem d_GR_read_148 : decode c_GR_read 148 = .ok (.iinc 4 1, 3) := by decide +kernel
theorem d_GR_read_151 : decode c_GR_read 151 = .ok (.iinc 5 4, 3) := by decide +kernel
theorem d_GR_read_154 : decode c_GR_read 154 = .ok (.goto (-104), 3) := by decide +kernel
theorem d_GR_read_157 : decode c_GR_read 157 = .ok (.iload 4, 2) := by decide +kernel
theorem d_GR_read_159 : decode c_GR_read 159 = .ok (.ireturn, 1) := by decide +kernel
theorem d_Ts_dropLast_0 : decode c_Ts_dropLast 0 = .ok (.aload_n 0, 1) := by decide +kernel
theorem d_Ts_dropLast_1 : decode c_Ts_dropLast 1 = .ok (.iconst 0, 1) := by decide +kernel
theorem d_Ts_dropLast_2 : decode c_Ts_dropLast 2 = .ok (.aload_n 0, 1) := by decide +kernel
theorem d_Ts_dropLast_3 : decode c_Ts_dropLast 3 = .ok (.getfield 22, 3) := by decide +kernel
theorem d_Ts_dropLast_6 : decode c_Ts_dropLast 6 = .ok (.iconst 1, 1) := by decide +kernel
theorem d_Ts_dropLast_7 : decode c_Ts_dropLast 7 = .ok (.isub, 1) := by decide +kernel
theorem d_Ts_dropLast_8 : decode c_Ts_dropLast 8 = .ok (.invokestatic 53, 3) := by decide +kernel
theorem d_Ts_dropLast_11 : decode c_Ts_dropLast 11 = .ok (.putfield 22, 3) := by decide +kernel
theorem d_Ts_dropLast_14 : decode c_Ts_dropLast 14 = .ok (.return_, 1) := by decide +kernel
theorem d_GR_undo_0 : decode c_GR_undo 0 = .ok (.aload_n 0, 1) := by decide +kernel
theorem d_GR_undo_1 : decode c_GR_undo 1 = .ok (.getfield 35, 3) := by decide +kernel
theorem d_GR_undo_4 : decode c_GR_undo 4 = .ok (.getfield 154, 3) := by decide +kernel
theorem d_GR_undo_7 : decode c_GR_undo 7 = .ok (.iconst 1, 1) := by decide +kernel
theorem d_GR_undo_8 : decode c_GR_undo 8 = .ok (.if_icmp .ge 6, 3) := by decide +kernel
theorem d_GR_undo_11 : decode c_GR_undo 11 = .ok (.bipush (-3), 2) := by decide +kernel
theorem d_GR_undo_13 : decode c_GR_undo 13 = .ok (.ireturn, 1) := by decide +kernel
theorem d_GR_undo_14 : decode c_GR_undo 14 = .ok (.aload_n 0, 1) := by decide +kernel
theorem d_GR_undo_15 : decode c_GR_undo 15 = .ok (.getfield 35, 3) := by decide +kernel
theorem d_GR_undo_18 : decode c_GR_undo 18 = .ok (.invokevirtual 172, 3) := by decide +kernel
theorem d_GR_undo_21 : decode c_GR_undo 21 = .ok (.aload_n 0, 1) := by decide +kernel
theorem d_GR_undo_22 : decode c_GR_undo 22 = .ok (.getfield 35, 3) := by decide +kernel
theorem d_GR_undo_25 : decode c_GR_undo 25 = .ok (.getfield 154, 3) := by decide +kernel
theorem d_GR_undo_28 : decode c_GR_undo 28 = .ok (.ireturn, 1) := by decide +kernel
theorem d_Ts_has_0 : decode c_Ts_has 0 = .ok (.iload_n 1, 1) := by decide +kernel
theorem d_Ts_has_1 : decode c_Ts_has 1 = .ok (.aload_n 0, 1) := by decide +kernel
theorem d_Ts_has_2 : decode c_Ts_has 2 = .ok (.getfield 22, 3) := by decide +kernel
theorem d_Ts_has_5 : decode c_Ts_has 5 = .ok (.invokestatic 26, 3) := by decide +kernel
theorem d_Ts_has_8 : decode c_Ts_has 8 = .ok (.ireturn, 1) := by decide +kernel
theorem d_Tt_begin_0 : decode c_Tt_begin 0 = .ok (.iload_n 1, 1) := by decide +kernel
theorem d_Tt_begin_1 : decode c_Tt_begin 1 = .ok (.bipush 20, 2) := by decide +kernel
theorem d_Tt_begin_3 : decode c_Tt_begin 3 = .ok (.invokestatic 15, 3) := by decide +kernel
theorem d_Tt_begin_6 : decode c_Tt_begin 6 = .ok (.ifCond .eq 10, 3) := by decide +kernel
theorem d_Tt_begin_9 : decode c_Tt_begin 9 = .ok (.aload_n 0, 1) := by decide +kernel
theorem d_Tt_begin_10 : decode c_Tt_begin 10 = .ok (.getfield 9, 3) := by decide +kernel
theorem d_Tt_begin_13 : decode c_Tt_begin 13 = .ok (.iload_n 1, 1) := by decide +kernel
theorem d_Tt_begin_14 : decode c_Tt_begin 14 = .ok (.iload_n 2, 1) := by decide +kernel
theorem d_Tt_begin_15 : decode c_Tt_begin 15 = .ok (.iastore, 1) := by decide +kernel
theorem d_Tt_begin_16 : decode c_Tt_begin 16 = .ok (.return_, 1) := by decide +kernel
theorem d_Tt_beginAsTold_0 : decode c_Tt_beginAsTold 0 = .ok (.iconst 0, 1) := by decide +kernel
theorem d_Tt_beginAsTold_1 : decode c_Tt_beginAsTold 1 = .ok (.istore_n 3, 1) := by decide +kernel
theorem d_Tt_beginAsTold_2 : decode c_Tt_beginAsTold 2 = .ok (.iload_n 3, 1) := by decide +kernel
theorem d_Tt_beginAsTold_3 : decode c_Tt_beginAsTold 3 = .ok (.aload_n 2, 1) := by decide +kernel
theorem d_Tt_beginAsTold_4 : decode c_Tt_beginAsTold 4 = .ok (.getfield 19, 3) := by decide +kernel
theorem d_Tt_beginAsTold_7 : decode c_Tt_beginAsTold 7 = .ok (.if_icmp .ge 42, 3) := by decide +kernel
theorem d_Tt_beginAsTold_10 : decode c_Tt_beginAsTold 10 = .ok (.aload_n 2, 1) := by decide +kernel
theorem d_Tt_beginAsTold_11 : decode c_Tt_beginAsTold 11 = .ok (.iload_n 3, 1) := by decide +kernel
theorem d_Tt_beginAsTold_12 : decode c_Tt_beginAsTold 12 = .ok (.invokevirtual 25, 3) := by decide +kernel
theorem d_Tt_beginAsTold_15 : decode c_Tt_beginAsTold 15 = .ok (.astore 4, 2) := by decide +kernel
theorem d_Tt_beginAsTold_17 : decode c_Tt_beginAsTold 17 = .ok (.aload_n 0, 1) := by decide +kernel
theorem d_Tt_beginAsTold_18 : decode c_Tt_beginAsTold 18 = .ok (.iload_n 3, 1) := by decide +kernel
theorem d_Tt_beginAsTold_19 : decode c_Tt_beginAsTold 19 = .ok (.aload_n 1, 1) := by decide +kernel
theorem d_Tt_beginAsTold_20 : decode c_Tt_beginAsTold 20 = .ok (.aload 4, 2) := by decide +kernel
theorem d_Tt_beginAsTold_22 : decode c_Tt_beginAsTold 22 = .ok (.getfield 29, 3) := by decide +kernel
theorem d_Tt_beginAsTold_25 : decode c_Tt_beginAsTold 25 = .ok (.invokevirtual 34, 3) := by decide +kernel
theorem d_Tt_beginAsTold_28 : decode c_Tt_beginAsTold 28 = .ok (.ifCond .eq 11, 3) := by decide +kernel
theorem d_Tt_beginAsTold_31 : decode c_Tt_beginAsTold 31 = .ok (.aload 4, 2) := by decide +kernel
theorem d_Tt_beginAsTold_33 : decode c_Tt_beginAsTold 33 = .ok (.getfield 40, 3) := by decide +kernel
theorem d_Tt_beginAsTold_36 : decode c_Tt_beginAsTold 36 = .ok (.goto 4, 3) := by decide +kernel
theorem d_Tt_beginAsTold_39 : decode c_Tt_beginAsTold 39 = .ok (.iconst (-1), 1) := by decide +kernel
theorem d_Tt_beginAsTold_40 : decode c_Tt_beginAsTold 40 = .ok (.invokevirtual 43, 3) := by decide +kernel
theorem d_Tt_beginAsTold_43 : decode c_Tt_beginAsTold 43 = .ok (.iinc 3 1, 3) := by decide +kernel
theorem d_Tt_beginAsTold_46 : decode c_Tt_beginAsTold 46 = .ok (.goto (-44), 3) := by decide +kernel
theorem d_Tt_beginAsTold_49 : decode c_Tt_beginAsTold 49 = .ok (.return_, 1) := by decide +kernel
theorem d_Tt_startOf_0 : decode c_Tt_startOf 0 = .ok (.iload_n 1, 1) := by decide +kernel
theorem d_Tt_startOf_1 : decode c_Tt_startOf 1 = .ok (.bipush 20, 2) := by decide +kernel
theorem d_Tt_startOf_3 : decode c_Tt_startOf 3 = .ok (.invokestatic 15, 3) := by decide +kernel
theorem d_Tt_startOf_6 : decode c_Tt_startOf 6 = .ok (.ifCond .eq 12, 3) := by decide +kernel
theorem d_Tt_startOf_9 : decode c_Tt_startOf 9 = .ok (.aload_n 0, 1) := by decide +kernel
theorem d_Tt_startOf_10 : decode c_Tt_startOf 10 = .ok (.getfield 9, 3) := by decide +kernel
theorem d_Tt_startOf_13 : decode c_Tt_startOf 13 = .ok (.iload_n 1, 1) := by decide +kernel
theorem d_Tt_startOf_14 : decode c_Tt_startOf 14 = .ok (.iaload, 1) := by decide +kernel
theorem d_Tt_startOf_15 : decode c_Tt_startOf 15 = .ok (.goto 4, 3) := by decide +kernel
theorem d_Tt_startOf_18 : decode c_Tt_startOf 18 = .ok (.iconst (-1), 1) := by decide +kernel
theorem d_Tt_startOf_19 : decode c_Tt_startOf 19 = .ok (.ireturn, 1) := by decide +kernel
theorem d_Tt_collide_0 : decode c_Tt_collide 0 = .ok (.aload_n 0, 1) := by decide +kernel
theorem d_Tt_collide_1 : decode c_Tt_collide 1 = .ok (.iload_n 3, 1) := by decide +kernel
theorem d_Tt_collide_2 : decode c_Tt_collide 2 = .ok (.invokevirtual 75, 3) := by decide +kernel
theorem d_Tt_collide_5 : decode c_Tt_collide 5 = .ok (.istore 6, 2) := by decide +kernel
theorem d_Tt_collide_7 : decode c_Tt_collide 7 = .ok (.aload_n 0, 1) := by decide +kernel
theorem d_Tt_collide_8 : decode c_Tt_collide 8 = .ok (.iload 4, 2) := by decide +kernel
theorem d_Tt_collide_10 : decode c_Tt_collide 10 = .ok (.invokevirtual 75, 3) := by decide +kernel
theorem d_Tt_collide_13 : decode c_Tt_collide 13 = .ok (.istore 7, 2) := by decide +kernel
theorem d_Tt_collide_15 : decode c_Tt_collide 15 = .ok (.iload 6, 2) := by decide +kernel
theorem d_Tt_collide_17 : decode c_Tt_collide 17 = .ok (.iconst (-1), 1) := by decide +kernel
theorem d_Tt_collide_18 : decode c_Tt_collide 18 = .ok (.if_icmp .eq 9, 3) := by decide +kernel
theorem d_Tt_collide_21 : decode c_Tt_collide 21 = .ok (.iload 7, 2) := by decide +kernel
theorem d_Tt_collide_23 : decode c_Tt_collide 23 = .ok (.iconst (-1), 1) := by decide +kernel
theorem d_Tt_collide_24 : decode c_Tt_collide 24 = .ok (.if_icmp .ne 5, 3) := by decide +kernel
theorem d_Tt_collide_27 : decode c_Tt_collide 27 = .ok (.iconst 0, 1) := by decide +kernel
theorem d_Tt_collide_28 : decode c_Tt_collide 28 = .ok (.ireturn, 1) := by decide +kernel
theorem d_Tt_collide_29 : decode c_Tt_collide 29 = .ok (.aload_n 2, 1) := by decide +kernel
theorem d_Tt_collide_30 : decode c_Tt_collide 30 = .ok (.iload_n 3, 1) := by decide +kernel
theorem d_Tt_collide_31 : decode c_Tt_collide 31 = .ok (.invokevirtual 25, 3) := by decide +kernel
theorem d_Tt_collide_34 : decode c_Tt_collide 34 = .ok (.astore 8, 2) := by decide +kernel
theorem d_Tt_collide_36 : decode c_Tt_collide 36 = .ok (.aload_n 2, 1) := by decide +kernel
theorem d_Tt_collide_37 : decode c_Tt_collide 37 = .ok (.iload 4, 2) := by decide +kernel
theorem d_Tt_collide_39 : decode c_Tt_collide 39 = .ok (.invokevirtual 25, 3) := by decide +kernel
theorem d_Tt_collide_42 : decode c_Tt_collide 42 = .ok (.astore 9, 2) := by decide +kernel
theorem d_Tt_collide_44 : decode c_Tt_collide 44 = .ok (.aload_n 1, 1) := by decide +kernel
theorem d_Tt_collide_45 : decode c_Tt_collide 45 = .ok (.aload 8, 2) := by decide +kernel
theorem d_Tt_collide_47 : decode c_Tt_collide 47 = .ok (.getfield 29, 3) := by decide +kernel
theorem d_Tt_collide_50 : decode c_Tt_collide 50 = .ok (.invokevirtual 78, 3) := by decide +kernel
theorem d_Tt_collide_53 : decode c_Tt_collide 53 = .ok (.astore 10, 2) := by decide +kernel
theorem d_Tt_collide_55 : decode c_Tt_collide 55 = .ok (.aload_n 1, 1) := by decide +kernel
theorem d_Tt_collide_56 : decode c_Tt_collide 56 = .ok (.aload 9, 2) := by decide +kernel
theorem d_Tt_collide_58 : decode c_Tt_collide 58 = .ok (.getfield 29, 3) := by decide +kernel
theorem d_Tt_collide_61 : decode c_Tt_collide 61 = .ok (.invokevirtual 78, 3) := by decide +kernel
theorem d_Tt_collide_64 : decode c_Tt_collide 64 = .ok (.astore 11, 2) := by decide +kernel
theorem d_Tt_collide_66 : decode c_Tt_collide 66 = .ok (.aload 10, 2) := by decide +kernel
theorem d_Tt_collide_68 : decode c_Tt_collide 68 = .ok (.aload 8, 2) := by decide +kernel
theorem d_Tt_collide_70 : decode c_Tt_collide 70 = .ok (.getfield 81, 3) := by decide +kernel
theorem d_Tt_collide_73 : decode c_Tt_collide 73 = .ok (.invokevirtual 84, 3) := by decide +kernel
theorem d_Tt_collide_76 : decode c_Tt_collide 76 = .ok (.istore 12, 2) := by decide +kernel
theorem d_Tt_collide_78 : decode c_Tt_collide 78 = .ok (.aload 11, 2) := by decide +kernel
theorem d_Tt_collide_80 : decode c_Tt_collide 80 = .ok (.aload 9, 2) := by decide +kernel
theorem d_Tt_collide_82 : decode c_Tt_collide 82 = .ok (.getfield 81, 3) := by decide +kernel
theorem d_Tt_collide_85 : decode c_Tt_collide 85 = .ok (.invokevirtual 84, 3) := by decide +kernel
theorem d_Tt_collide_88 : decode c_Tt_collide 88 = .ok (.istore 13, 2) := by decide +kernel
theorem d_Tt_collide_90 : decode c_Tt_collide 90 = .ok (.aload 8, 2) := by decide +kernel
theorem d_Tt_collide_92 : decode c_Tt_collide 92 = .ok (.getfield 29, 3) := by decide +kernel
theorem d_Tt_collide_95 : decode c_Tt_collide 95 = .ok (.aload 9, 2) := by decide +kernel
theorem d_Tt_collide_97 : decode c_Tt_collide 97 = .ok (.getfield 29, 3) := by decide +kernel
theorem d_Tt_collide_100 : decode c_Tt_collide 100 = .ok (.if_icmp .ne 29, 3) := by decide +kernel
theorem d_Tt_collide_103 : decode c_Tt_collide 103 = .ok (.iload 6, 2) := by decide +kernel
theorem d_Tt_collide_105 : decode c_Tt_collide 105 = .ok (.iload 7, 2) := by decide +kernel
theorem d_Tt_collide_107 : decode c_Tt_collide 107 = .ok (.iload 13, 2) := by decide +kernel
theorem d_Tt_collide_109 : decode c_Tt_collide 109 = .ok (.iadd, 1) := by decide +kernel
theorem d_Tt_collide_110 : decode c_Tt_collide 110 = .ok (.if_icmp .ge 17, 3) := by decide +kernel
theorem d_Tt_collide_113 : decode c_Tt_collide 113 = .ok (.iload 6, 2) := by decide +kernel
theorem d_Tt_collide_115 : decode c_Tt_collide 115 = .ok (.iload 12, 2) := by decide +kernel
theorem d_Tt_collide_117 : decode c_Tt_collide 117 = .ok (.iadd, 1) := by decide +kernel
theorem d_Tt_collide_118 : decode c_Tt_collide 118 = .ok (.iload 7, 2) := by decide +kernel
theorem d_Tt_collide_120 : decode c_Tt_collide 120 = .ok (.if_icmp .le 7, 3) := by decide +kernel
theorem d_Tt_collide_123 : decode c_Tt_collide 123 = .ok (.iconst 1, 1) := by decide +kernel
theorem d_Tt_collide_124 : decode c_Tt_collide 124 = .ok (.goto 4, 3) := by decide +kernel
theorem d_Tt_collide_127 : decode c_Tt_collide 127 = .ok (.iconst 0, 1) := by decide +kernel
theorem d_Tt_collide_128 : decode c_Tt_collide 128 = .ok (.ireturn, 1) := by decide +kernel
theorem d_Tt_collide_129 : decode c_Tt_collide 129 = .ok (.aload 10, 2) := by decide +kernel
theorem d_Tt_collide_131 : decode c_Tt_collide 131 = .ok (.aload 11, 2) := by decide +kernel
theorem d_Tt_collide_133 : decode c_Tt_collide 133 = .ok (.invokevirtual 89, 3) := by decide +kernel
theorem d_Tt_collide_136 : decode c_Tt_collide 136 = .ok (.ifCond .ne 5, 3) := by decide +kernel
theorem d_Tt_collide_139 : decode c_Tt_collide 139 = .ok (.iconst 0, 1) := by decide +kernel
theorem d_Tt_collide_140 : decode c_Tt_collide 140 = .ok (.ireturn, 1) := by decide +kernel
theorem d_Tt_collide_141 : decode c_Tt_collide 141 = .ok (.aload 10, 2) := by decide +kernel
theorem d_Tt_collide_143 : decode c_Tt_collide 143 = .ok (.aload 11, 2) := by decide +kernel
theorem d_Tt_collide_145 : decode c_Tt_collide 145 = .ok (.invokevirtual 93, 3) := by decide +kernel
theorem d_Tt_collide_148 : decode c_Tt_collide 148 = .ok (.istore 14, 2) := by decide +kernel
theorem d_Tt_collide_150 : decode c_Tt_collide 150 = .ok (.iload 6, 2) := by decide +kernel
theorem d_Tt_collide_152 : decode c_Tt_collide 152 = .ok (.iload 14, 2) := by decide +kernel
theorem d_Tt_collide_154 : decode c_Tt_collide 154 = .ok (.imul, 1) := by decide +kernel
theorem d_Tt_collide_155 : decode c_Tt_collide 155 = .ok (.iload 12, 2) := by decide +kernel
theorem d_Tt_collide_157 : decode c_Tt_collide 157 = .ok (.aload 10, 2) := by decide +kernel
theorem d_Tt_collide_159 : decode c_Tt_collide 159 = .ok (.aload 11, 2) := by decide +kernel
theorem d_Tt_collide_161 : decode c_Tt_collide 161 = .ok (.aload 8, 2) := by decide +kernel
theorem d_Tt_collide_163 : decode c_Tt_collide 163 = .ok (.getfield 81, 3) := by decide +kernel
theorem d_Tt_collide_166 : decode c_Tt_collide 166 = .ok (.invokevirtual 97, 3) := by decide +kernel
theorem d_Tt_collide_169 : decode c_Tt_collide 169 = .ok (.imul, 1) := by decide +kernel
theorem d_Tt_collide_170 : decode c_Tt_collide 170 = .ok (.iadd, 1) := by decide +kernel
theorem d_Tt_collide_171 : decode c_Tt_collide 171 = .ok (.istore 15, 2) := by decide +kernel
theorem d_Tt_collide_173 : decode c_Tt_collide 173 = .ok (.iload 7, 2) := by decide +kernel
theorem d_Tt_collide_175 : decode c_Tt_collide 175 = .ok (.iload 14, 2) := by decide +kernel
theorem d_Tt_collide_177 : decode c_Tt_collide 177 = .ok (.imul, 1) := by decide +kernel
theorem d_Tt_collide_178 : decode c_Tt_collide 178 = .ok (.iload 13, 2) := by decide +kernel
theorem d_Tt_collide_180 : decode c_Tt_collide 180 = .ok (.aload 11, 2) := by decide +kernel
theorem d_Tt_collide_182 : decode c_Tt_collide 182 = .ok (.aload 10, 2) := by decide +kernel
theorem d_Tt_collide_184 : decode c_Tt_collide 184 = .ok (.aload 9, 2) := by decide +kernel
theorem d_Tt_collide_186 : decode c_Tt_collide 186 = .ok (.getfield 81, 3) := by decide +kernel
theorem d_Tt_collide_189 : decode c_Tt_collide 189 = .ok (.invokevirtual 97, 3) := by decide +kernel
theorem d_Tt_collide_192 : decode c_Tt_collide 192 = .ok (.imul, 1) := by decide +kernel
theorem d_Tt_collide_193 : decode c_Tt_collide 193 = .ok (.iadd, 1) := by decide +kernel
theorem d_Tt_collide_194 : decode c_Tt_collide 194 = .ok (.istore 16, 2) := by decide +kernel
theorem d_Tt_collide_196 : decode c_Tt_collide 196 = .ok (.iload 15, 2) := by decide +kernel
theorem d_Tt_collide_198 : decode c_Tt_collide 198 = .ok (.iload 16, 2) := by decide +kernel
theorem d_Tt_collide_200 : decode c_Tt_collide 200 = .ok (.isub, 1) := by decide +kernel
theorem d_Tt_collide_201 : decode c_Tt_collide 201 = .ok (.invokestatic 101, 3) := by decide +kernel
theorem d_Tt_collide_204 : decode c_Tt_collide 204 = .ok (.iload 5, 2) := by decide +kernel
theorem d_Tt_collide_206 : decode c_Tt_collide 206 = .ok (.iload 14, 2) := by decide +kernel
theorem d_Tt_collide_208 : decode c_Tt_collide 208 = .ok (.imul, 1) := by decide +kernel
theorem d_Tt_collide_209 : decode c_Tt_collide 209 = .ok (.if_icmp .ge 7, 3) := by decide +kernel
theorem d_Tt_collide_212 : decode c_Tt_collide 212 = .ok (.iconst 1, 1) := by decide +kernel
theorem d_Tt_collide_213 : decode c_Tt_collide 213 = .ok (.goto 4, 3) := by decide +kernel
theorem d_Tt_collide_216 : decode c_Tt_collide 216 = .ok (.iconst 0, 1) := by decide +kernel
theorem d_Tt_collide_217 : decode c_Tt_collide 217 = .ok (.ireturn, 1) := by decide +kernel
theorem d_GR_guilty_0 : decode c_GR_guilty 0 = .ok (.aload_n 0, 1) := by decide +kernel
theorem d_GR_guilty_1 : decode c_GR_guilty 1 = .ok (.getfield 35, 3) := by decide +kernel
theorem d_GR_guilty_4 : decode c_GR_guilty 4 = .ok (.iload_n 1, 1) := by decide +kernel
theorem d_GR_guilty_5 : decode c_GR_guilty 5 = .ok (.invokevirtual 209, 3) := by decide +kernel
theorem d_GR_guilty_8 : decode c_GR_guilty 8 = .ok (.getfield 212, 3) := by decide +kernel
theorem d_GR_guilty_11 : decode c_GR_guilty 11 = .ok (.istore_n 3, 1) := by decide +kernel
theorem d_GR_guilty_12 : decode c_GR_guilty 12 = .ok (.aload_n 0, 1) := by decide +kernel
theorem d_GR_guilty_13 : decode c_GR_guilty 13 = .ok (.getfield 35, 3) := by decide +kernel
theorem d_GR_guilty_16 : decode c_GR_guilty 16 = .ok (.iload_n 2, 1) := by decide +kernel
theorem d_GR_guilty_17 : decode c_GR_guilty 17 = .ok (.invokevirtual 209, 3) := by decide +kernel
theorem d_GR_guilty_20 : decode c_GR_guilty 20 = .ok (.getfield 212, 3) := by decide +kernel
theorem d_GR_guilty_23 : decode c_GR_guilty 23 = .ok (.istore 4, 2) := by decide +kernel
theorem d_GR_guilty_25 : decode c_GR_guilty 25 = .ok (.iload_n 3, 1) := by decide +kernel
theorem d_GR_guilty_26 : decode c_GR_guilty 26 = .ok (.iload 4, 2) := by decide +kernel
theorem d_GR_guilty_28 : decode c_GR_guilty 28 = .ok (.if_icmp .ne 9, 3) := by decide +kernel
theorem d_GR_guilty_31 : decode c_GR_guilty 31 = .ok (.iload_n 1, 1) := by decide +kernel
theorem d_GR_guilty_32 : decode c_GR_guilty 32 = .ok (.iload_n 2, 1) := by decide +kernel
theorem d_GR_guilty_33 : decode c_GR_guilty 33 = .ok (.invokestatic 204, 3) := by decide +kernel
theorem d_GR_guilty_36 : decode c_GR_guilty 36 = .ok (.ireturn, 1) := by decide +kernel
theorem d_GR_guilty_37 : decode c_GR_guilty 37 = .ok (.aload_n 0, 1) := by decide +kernel
theorem d_GR_guilty_38 : decode c_GR_guilty 38 = .ok (.getfield 24, 3) := by decide +kernel
theorem d_GR_guilty_41 : decode c_GR_guilty 41 = .ok (.iload_n 3, 1) := by decide +kernel
theorem d_GR_guilty_42 : decode c_GR_guilty 42 = .ok (.invokevirtual 104, 3) := by decide +kernel
theorem d_GR_guilty_45 : decode c_GR_guilty 45 = .ok (.getfield 358, 3) := by decide +kernel
theorem d_GR_guilty_48 : decode c_GR_guilty 48 = .ok (.aload_n 0, 1) := by decide +kernel
theorem d_GR_guilty_49 : decode c_GR_guilty 49 = .ok (.getfield 24, 3) := by decide +kernel
theorem d_GR_guilty_52 : decode c_GR_guilty 52 = .ok (.iload 4, 2) := by decide +kernel
theorem d_GR_guilty_54 : decode c_GR_guilty 54 = .ok (.invokevirtual 104, 3) := by decide +kernel
theorem d_GR_guilty_57 : decode c_GR_guilty 57 = .ok (.getfield 358, 3) := by decide +kernel
theorem d_GR_guilty_60 : decode c_GR_guilty 60 = .ok (.if_icmp .le 7, 3) := by decide +kernel
theorem d_GR_guilty_63 : decode c_GR_guilty 63 = .ok (.iload_n 1, 1) := by decide +kernel
theorem d_GR_guilty_64 : decode c_GR_guilty 64 = .ok (.goto 4, 3) := by decide +kernel
theorem d_GR_guilty_67 : decode c_GR_guilty 67 = .ok (.iload_n 2, 1) := by decide +kernel
theorem d_GR_guilty_68 : decode c_GR_guilty 68 = .ok (.ireturn, 1) := by decide +kernel
def f_Sh_item (σ : Sg) (v0 : Nat) (v1 : Int32) : Int32 :=
  if (f_GR_isBelow v1 60) = 0 then 0 else σ.1 (v0 + 1) v1.toNatClampNeg
set_option maxHeartbeats 4000000 in
theorem j_Sh_item {V : Vx} {X : Xx} {r : Int32} (σ : Sg) (v0 : Nat) (v1 : Int32) (iv0 : is_Sh v0) (hf : f_Sh_item σ v0 v1 = r) : J V X (k2_rm 1 21) c_Sh_item R_Sh 2 (some .int) (Qr V X (some (.int r)) σ) σ 0 [(0, rf V v0), (1, .int v1)] [] := by
  unfold f_Sh_item at hf
  refine J_iload_n (pc' := 1) d_Sh_item_0 rfl 1 rfl ?_
  refine J_bipush (pc' := 3) (v := 60) d_Sh_item_1 rfl bc_60 ?_
  refine J_S (pc' := 6) (as := [.int v1, .int 60]) (rest := []) (st' := [.int (f_GR_isBelow v1 60)]) d_Sh_item_3 rfl ms_Sh_31 (ct_GR_isBelow V _ σ v1 60) rfl rfl ⟨Nat.le_of_ble_eq_true rfl, Nat.le_of_ble_eq_true rfl⟩ ⟨rfl, rfl⟩ (Nat.le_of_ble_eq_true rfl) rfl ?_
  refine J_if_eq (pc' := 9) (tgt := 18) d_Sh_item_6 rfl (by decide) (fun hc1 => ?_) (fun hc1 => ?_)
  · have hf := brT hc1 hf
    refine J_iconst (pc' := 19) (v := 0) d_Sh_item_18 rfl ic_0 ?_
    subst hf
    exact J_iret d_Sh_item_19
  · have hf := brF hc1 hf
    refine J_aload_n (pc' := 10) d_Sh_item_9 rfl 0 rfl ?_
    refine J_getR (pc' := 13) d_Sh_item_10 rfl (sh_Sh iv0) fl_Sh_9 rfl ?_
    refine J_iload_n (pc' := 14) d_Sh_item_13 rfl 1 rfl ?_
    refine J_ial (pc' := 15) d_Sh_item_14 rfl (sh_Sh_a iv0) (vin_b hc1) ?_
    refine J_goto (tgt := 19) d_Sh_item_15 (by decide) ?_
    subst hf
    exact J_iret d_Sh_item_19
theorem ct_Sh_item (V : Vx) (l : Launch) (σ : Sg) (v0 : Nat) (v1 : Int32) (iv0 : is_Sh v0) : Ct V l y_Sh_item c_Sh_item 2 (some .int) (k2_rm 1 21) [rf V v0, .int v1] σ (some (.int (f_Sh_item σ v0 v1))) σ := Ct.ofJ (by decide +kernel) (Nat.le_of_ble_eq_true rfl) fun X _ => j_Sh_item _ v0 v1 iv0 rfl
def f_Ss_find (σ : Sg) (v1 : Int32) : Option (Int32 × Sg) :=
  some ((-10) - v1, (pI σ 54 2 v1))
set_option maxHeartbeats 4000000 in
theorem j_Ss_find {V : Vx} {X : Xx} {r : Int32} {σ' : Sg} (σ : Sg) (v1 : Int32) (hf : f_Ss_find σ v1 = some (r, σ')) : J V X (k2_rm 0 0) c_Ss_find R_Ss 2 (some .int) (Qr V X (some (.int r)) σ') σ 0 [(0, rf V 54), (1, .int v1)] [] := by
  unfold f_Ss_find at hf
  refine J_aload_n (pc' := 1) d_Ss_find_0 rfl 0 rfl ?_
  refine J_iload_n (pc' := 2) d_Ss_find_1 rfl 1 rfl ?_
  refine J_putI (pc' := 5) d_Ss_find_2 rfl sh_54 fp_Ss_26 rfl ?_
  refine J_bipush (pc' := 7) (v := (-10)) d_Ss_find_5 rfl bc_m10 ?_
  refine J_iload_n (pc' := 8) d_Ss_find_7 rfl 1 rfl ?_
  refine J_isub (pc' := 9) d_Ss_find_8 rfl ?_
  obtain ⟨rfl, rfl⟩ := resE hf
  exact J_iret d_Ss_find_9
theorem ct_Ss_find (V : Vx) (l : Launch) (σ : Sg) (v1 : Int32) {r : Int32} {σ' : Sg} (hf : f_Ss_find σ v1 = some (r, σ')) : Ct V l y_Ss_find c_Ss_find 2 (some .int) (k2_rm 0 0) [rf V 54, .int v1] σ (some (.int r)) σ' := Ct.ofJ (by decide +kernel) (Nat.le_of_ble_eq_true rfl) fun X _ => j_Ss_find _ v1 hf
def f_GR_read_50 : Nat → Sg → Int32 → Nat → Int32 → Int32 → Option (Int32 × Sg)
  | 0, _, _, _, _, _ => none
  | n + 1, σ, v2, v3, v4, v5 =>
    if (σ.1 v3 2) < (v5 + 4) then
      some (v4, σ)
    else
      if (f_Ts_isFull σ) = 0 then
        if (f_GR_mayGo (f_Sh_item σ v3 v5) (f_Sh_item σ v3 (v5 + 1)) (f_Sh_item σ v3 (v5 + 2)) (f_Sh_item σ v3 (v5 + 3))) = 0 then
          some (v4, σ)
        else
          (f_Ts_append σ (f_Sh_item σ v3 v5) (f_Sh_item σ v3 (v5 + 1)) (f_Sh_item σ v3 (v5 + 2)) (f_Sh_item σ v3 (v5 + 3)) v2).bind fun σ8 =>
            f_GR_read_50 n σ8 v2 v3 (v4 + 1) (v5 + 4)
      else
        some (v4, σ)
theorem f_GR_read_50_s (n : Nat) (σ : Sg) (v2 : Int32) (v3 : Nat) (v4 : Int32) (v5 : Int32) : f_GR_read_50 (n + 1) σ v2 v3 v4 v5 =
    if (σ.1 v3 2) < (v5 + 4) then
      some (v4, σ)
    else
      if (f_Ts_isFull σ) = 0 then
        if (f_GR_mayGo (f_Sh_item σ v3 v5) (f_Sh_item σ v3 (v5 + 1)) (f_Sh_item σ v3 (v5 + 2)) (f_Sh_item σ v3 (v5 + 3))) = 0 then
          some (v4, σ)
        else
          (f_Ts_append σ (f_Sh_item σ v3 v5) (f_Sh_item σ v3 (v5 + 1)) (f_Sh_item σ v3 (v5 + 2)) (f_Sh_item σ v3 (v5 + 3)) v2).bind fun σ8 =>
            f_GR_read_50 n σ8 v2 v3 (v4 + 1) (v5 + 4)
      else
        some (v4, σ) := rfl
set_option maxHeartbeats 4000000 in
theorem j_GR_read_50 {V : Vx} {X : Xx} {r : Int32} {σ' : Sg}  : ∀ (n : Nat) (σ : Sg) (v2 : Int32) (v3 : Nat) (v4 : Int32) (v5 : Int32) (iv3 : is_Sh v3), f_GR_read_50 n σ v2 v3 v4 v5 = some (r, σ') → J V X (k2_rm 3 69) c_GR_read R_GR 6 (some .int) (Qr V X (some (.int r)) σ') σ 50 [(0, rf V 0), (2, .int v2), (3, rf V v3), (4, .int v4), (5, .int v5)] [] := by
  intro n
  induction n with
  | zero => intro σ v2 v3 v4 v5 iv3 hf; exact nn hf
  | succ n ih =>
    intro σ v2 v3 v4 v5 iv3 hf
    rw [f_GR_read_50_s] at hf
    refine J_iload (pc' := 52) d_GR_read_50 rfl 4 rfl ?_
    refine J_iconst (pc' := 53) (v := 4) d_GR_read_52 rfl ic_4 ?_
    refine J_iadd (pc' := 54) d_GR_read_53 rfl ?_
    refine J_aload_n (pc' := 55) d_GR_read_54 rfl 2 rfl ?_
    refine J_getI (pc' := 58) d_GR_read_55 rfl (sh_Sh iv3) fl_GR_168 rfl ?_
    refine J_icmp_gt (pc' := 61) (tgt := 157) d_GR_read_58 rfl (by decide) (fun hc4 => ?_) (fun hc4 => ?_)
    · have hf := brT hc4 hf
      refine J_iload (pc' := 159) d_GR_read_157 rfl 3 rfl ?_
      obtain ⟨rfl, rfl⟩ := resE hf
      exact J_iret d_GR_read_159
    · have hf := brF hc4 hf
      refine J_aload_n (pc' := 62) d_GR_read_61 rfl 0 rfl ?_
      refine J_getR (pc' := 65) d_GR_read_62 rfl sh_0 fl_GR_35 rfl ?_
      refine J_V (pc' := 68) (as := []) (rest := []) (st' := [.int (f_Ts_isFull σ)]) d_GR_read_65 rfl sh_18 rfl mv_GR_150 (ct_Ts_isFull V _ σ) rfl rfl ⟨Nat.le_of_ble_eq_true rfl, Nat.le_of_ble_eq_true rfl⟩ ⟨rfl, rfl⟩ (Nat.le_of_ble_eq_true rfl) rfl ?_
      refine J_if_ne (pc' := 71) (tgt := 157) d_GR_read_68 rfl (by decide) (fun hc5 => ?_) (fun hc5 => ?_)
      · have hf := brF hc5 hf
        refine J_iload (pc' := 159) d_GR_read_157 rfl 3 rfl ?_
        obtain ⟨rfl, rfl⟩ := resE hf
        exact J_iret d_GR_read_159
      · have hf := brT hc5 hf
        refine J_aload_n (pc' := 72) d_GR_read_71 rfl 2 rfl ?_
        refine J_iload (pc' := 74) d_GR_read_72 rfl 4 rfl ?_
        refine J_V (pc' := 77) (as := [.int v5]) (rest := []) (st' := [.int (f_Sh_item σ v3 v5)]) d_GR_read_74 rfl (sh_Sh iv3) rfl mv_GR_169 (ct_Sh_item V _ σ v3 v5 iv3) rfl rfl ⟨Nat.le_of_ble_eq_true rfl, Nat.le_of_ble_eq_true rfl⟩ ⟨rfl, rfl⟩ (Nat.le_of_ble_eq_true rfl) rfl ?_
        refine J_aload_n (pc' := 78) d_GR_read_77 rfl 2 rfl ?_
        refine J_iload (pc' := 80) d_GR_read_78 rfl 4 rfl ?_
        refine J_iconst (pc' := 81) (v := 1) d_GR_read_80 rfl ic_1 ?_
        refine J_iadd (pc' := 82) d_GR_read_81 rfl ?_
        refine J_V (pc' := 85) (as := [.int (v5 + 1)]) (rest := [.int (f_Sh_item σ v3 v5)]) (st' := [.int (f_Sh_item σ v3 (v5 + 1)), .int (f_Sh_item σ v3 v5)]) d_GR_read_82 rfl (sh_Sh iv3) rfl mv_GR_169 (ct_Sh_item V _ σ v3 (v5 + 1) iv3) rfl rfl ⟨Nat.le_of_ble_eq_true rfl, Nat.le_of_ble_eq_true rfl⟩ ⟨rfl, rfl⟩ (Nat.le_of_ble_eq_true rfl) rfl ?_
        refine J_aload_n (pc' := 86) d_GR_read_85 rfl 2 rfl ?_
        refine J_iload (pc' := 88) d_GR_read_86 rfl 4 rfl ?_
        refine J_iconst (pc' := 89) (v := 2) d_GR_read_88 rfl ic_2 ?_
        refine J_iadd (pc' := 90) d_GR_read_89 rfl ?_
        refine J_V (pc' := 93) (as := [.int (v5 + 2)]) (rest := [.int (f_Sh_item σ v3 (v5 + 1)), .int (f_Sh_item σ v3 v5)]) (st' := [.int (f_Sh_item σ v3 (v5 + 2)), .int (f_Sh_item σ v3 (v5 + 1)), .int (f_Sh_item σ v3 v5)]) d_GR_read_90 rfl (sh_Sh iv3) rfl mv_GR_169 (ct_Sh_item V _ σ v3 (v5 + 2) iv3) rfl rfl ⟨Nat.le_of_ble_eq_true rfl, Nat.le_of_ble_eq_true rfl⟩ ⟨rfl, rfl⟩ (Nat.le_of_ble_eq_true rfl) rfl ?_
        refine J_aload_n (pc' := 94) d_GR_read_93 rfl 2 rfl ?_
        refine J_iload (pc' := 96) d_GR_read_94 rfl 4 rfl ?_
        refine J_iconst (pc' := 97) (v := 3) d_GR_read_96 rfl ic_3 ?_
        refine J_iadd (pc' := 98) d_GR_read_97 rfl ?_
        refine J_V (pc' := 101) (as := [.int (v5 + 3)]) (rest := [.int (f_Sh_item σ v3 (v5 + 2)), .int (f_Sh_item σ v3 (v5 + 1)), .int (f_Sh_item σ v3 v5)]) (st' := [.int (f_Sh_item σ v3 (v5 + 3)), .int (f_Sh_item σ v3 (v5 + 2)), .int (f_Sh_item σ v3 (v5 + 1)), .int (f_Sh_item σ v3 v5)]) d_GR_read_98 rfl (sh_Sh iv3) rfl mv_GR_169 (ct_Sh_item V _ σ v3 (v5 + 3) iv3) rfl rfl ⟨Nat.le_of_ble_eq_true rfl, Nat.le_of_ble_eq_true rfl⟩ ⟨rfl, rfl⟩ (Nat.le_of_ble_eq_true rfl) rfl ?_
        refine J_S (pc' := 104) (as := [.int (f_Sh_item σ v3 v5), .int (f_Sh_item σ v3 (v5 + 1)), .int (f_Sh_item σ v3 (v5 + 2)), .int (f_Sh_item σ v3 (v5 + 3))]) (rest := []) (st' := [.int (f_GR_mayGo (f_Sh_item σ v3 v5) (f_Sh_item σ v3 (v5 + 1)) (f_Sh_item σ v3 (v5 + 2)) (f_Sh_item σ v3 (v5 + 3)))]) d_GR_read_101 rfl ms_GR_146 (ct_GR_mayGo V _ σ (f_Sh_item σ v3 v5) (f_Sh_item σ v3 (v5 + 1)) (f_Sh_item σ v3 (v5 + 2)) (f_Sh_item σ v3 (v5 + 3))) rfl rfl ⟨Nat.le_of_ble_eq_true rfl, Nat.le_of_ble_eq_true rfl⟩ ⟨rfl, rfl⟩ (Nat.le_of_ble_eq_true rfl) rfl ?_
        refine J_if_ne (pc' := 107) (tgt := 110) d_GR_read_104 rfl (by decide) (fun hc6 => ?_) (fun hc6 => ?_)
        · have hf := brF hc6 hf
          refine J_aload_n (pc' := 111) d_GR_read_110 rfl 0 rfl ?_
          refine J_getR (pc' := 114) d_GR_read_111 rfl sh_0 fl_GR_35 rfl ?_
          refine J_aload_n (pc' := 115) d_GR_read_114 rfl 2 rfl ?_
          refine J_iload (pc' := 117) d_GR_read_115 rfl 4 rfl ?_
          refine J_V (pc' := 120) (as := [.int v5]) (rest := [rf V 18]) (st' := [.int (f_Sh_item σ v3 v5), rf V 18]) d_GR_read_117 rfl (sh_Sh iv3) rfl mv_GR_169 (ct_Sh_item V _ σ v3 v5 iv3) rfl rfl ⟨Nat.le_of_ble_eq_true rfl, Nat.le_of_ble_eq_true rfl⟩ ⟨rfl, rfl⟩ (Nat.le_of_ble_eq_true rfl) rfl ?_
          refine J_aload_n (pc' := 121) d_GR_read_120 rfl 2 rfl ?_
          refine J_iload (pc' := 123) d_GR_read_121 rfl 4 rfl ?_
          refine J_iconst (pc' := 124) (v := 1) d_GR_read_123 rfl ic_1 ?_
          refine J_iadd (pc' := 125) d_GR_read_124 rfl ?_
          refine J_V (pc' := 128) (as := [.int (v5 + 1)]) (rest := [.int (f_Sh_item σ v3 v5), rf V 18]) (st' := [.int (f_Sh_item σ v3 (v5 + 1)), .int (f_Sh_item σ v3 v5), rf V 18]) d_GR_read_125 rfl (sh_Sh iv3) rfl mv_GR_169 (ct_Sh_item V _ σ v3 (v5 + 1) iv3) rfl rfl ⟨Nat.le_of_ble_eq_true rfl, Nat.le_of_ble_eq_true rfl⟩ ⟨rfl, rfl⟩ (Nat.le_of_ble_eq_true rfl) rfl ?_
          refine J_aload_n (pc' := 129) d_GR_read_128 rfl 2 rfl ?_
          refine J_iload (pc' := 131) d_GR_read_129 rfl 4 rfl ?_
          refine J_iconst (pc' := 132) (v := 2) d_GR_read_131 rfl ic_2 ?_
          refine J_iadd (pc' := 133) d_GR_read_132 rfl ?_
          refine J_V (pc' := 136) (as := [.int (v5 + 2)]) (rest := [.int (f_Sh_item σ v3 (v5 + 1)), .int (f_Sh_item σ v3 v5), rf V 18]) (st' := [.int (f_Sh_item σ v3 (v5 + 2)), .int (f_Sh_item σ v3 (v5 + 1)), .int (f_Sh_item σ v3 v5), rf V 18]) d_GR_read_133 rfl (sh_Sh iv3) rfl mv_GR_169 (ct_Sh_item V _ σ v3 (v5 + 2) iv3) rfl rfl ⟨Nat.le_of_ble_eq_true rfl, Nat.le_of_ble_eq_true rfl⟩ ⟨rfl, rfl⟩ (Nat.le_of_ble_eq_true rfl) rfl ?_
          refine J_aload_n (pc' := 137) d_GR_read_136 rfl 2 rfl ?_
          refine J_iload (pc' := 139) d_GR_read_137 rfl 4 rfl ?_
          refine J_iconst (pc' := 140) (v := 3) d_GR_read_139 rfl ic_3 ?_
          refine J_iadd (pc' := 141) d_GR_read_140 rfl ?_
          refine J_V (pc' := 144) (as := [.int (v5 + 3)]) (rest := [.int (f_Sh_item σ v3 (v5 + 2)), .int (f_Sh_item σ v3 (v5 + 1)), .int (f_Sh_item σ v3 v5), rf V 18]) (st' := [.int (f_Sh_item σ v3 (v5 + 3)), .int (f_Sh_item σ v3 (v5 + 2)), .int (f_Sh_item σ v3 (v5 + 1)), .int (f_Sh_item σ v3 v5), rf V 18]) d_GR_read_141 rfl (sh_Sh iv3) rfl mv_GR_169 (ct_Sh_item V _ σ v3 (v5 + 3) iv3) rfl rfl ⟨Nat.le_of_ble_eq_true rfl, Nat.le_of_ble_eq_true rfl⟩ ⟨rfl, rfl⟩ (Nat.le_of_ble_eq_true rfl) rfl ?_
          refine J_iload_n (pc' := 145) d_GR_read_144 rfl 1 rfl ?_
          obtain ⟨σ8, hq7, hf⟩ := bpE hf
          refine J_V (pc' := 148) (as := [.int (f_Sh_item σ v3 v5), .int (f_Sh_item σ v3 (v5 + 1)), .int (f_Sh_item σ v3 (v5 + 2)), .int (f_Sh_item σ v3 (v5 + 3)), .int v2]) (rest := []) (st' := []) d_GR_read_145 rfl sh_18 rfl mv_GR_151 (ct_Ts_append V _ σ (f_Sh_item σ v3 v5) (f_Sh_item σ v3 (v5 + 1)) (f_Sh_item σ v3 (v5 + 2)) (f_Sh_item σ v3 (v5 + 3)) v2 hq7) rfl rfl ⟨Nat.le_of_ble_eq_true rfl, Nat.le_of_ble_eq_true rfl⟩ ⟨rfl, rfl⟩ (Nat.le_of_ble_eq_true rfl) rfl ?_
          refine J_iinc (pc' := 151) (j := 3) (v := 1) (lv' := [(4, .int (v4 + 1)), (0, rf V 0), (2, .int v2), (3, rf V v3), (5, .int v5)]) d_GR_read_148 rfl rfl ic_1 (by decide) rfl ?_
          refine J_iinc (pc' := 154) (j := 4) (v := 4) (lv' := [(5, .int (v5 + 4)), (4, .int (v4 + 1)), (0, rf V 0), (2, .int v2), (3, rf V v3)]) d_GR_read_151 rfl rfl ic_4 (by decide) rfl ?_
          refine J_goto (tgt := 50) d_GR_read_154 (by decide) ?_
          refine J_pick [2, 3, 4, 1, 0] rfl ?_
          exact ih _ _ _ _ _ iv3 hf
        · have hf := brT hc6 hf
          refine J_goto (tgt := 157) d_GR_read_107 (by decide) ?_
          refine J_iload (pc' := 159) d_GR_read_157 rfl 3 rfl ?_
          obtain ⟨rfl, rfl⟩ := resE hf
          exact J_iret d_GR_read_159
def f_GR_read (σ : Sg) (v1 : Int32) (v2 : Int32) : Option (Int32 × Sg) :=
  if (f_GR_isBelow v1 4) = 0 then
    some ((-2), σ)
  else
    if (f_GR_isBelow v2 5) = 0 then
      some ((-2), σ)
    else
      if (f_Sh_isLost σ (f_Ss_at v1)) = 0 then
        f_GR_read_50 FU σ v2 (f_Ss_at v1) 0 0
      else
        bd (f_Ss_find σ 1) fun r11 σ10 =>
          some (r11, σ10)
set_option maxHeartbeats 4000000 in
theorem j_GR_read {V : Vx} {X : Xx} {r : Int32} {σ' : Sg} (σ : Sg) (v1 : Int32) (v2 : Int32) (hf : f_GR_read σ v1 v2 = some (r, σ')) : J V X (k2_rm 3 69) c_GR_read R_GR 6 (some .int) (Qr V X (some (.int r)) σ') σ 0 [(0, rf V 0), (1, .int v1), (2, .int v2)] [] := by
  unfold f_GR_read at hf
  refine J_iload_n (pc' := 1) d_GR_read_0 rfl 1 rfl ?_
  refine J_iconst (pc' := 2) (v := 4) d_GR_read_1 rfl ic_4 ?_
  refine J_S (pc' := 5) (as := [.int v1, .int 4]) (rest := []) (st' := [.int (f_GR_isBelow v1 4)]) d_GR_read_2 rfl ms_GR_67 (ct_GR_isBelow V _ σ v1 4) rfl rfl ⟨Nat.le_of_ble_eq_true rfl, Nat.le_of_ble_eq_true rfl⟩ ⟨rfl, rfl⟩ (Nat.le_of_ble_eq_true rfl) rfl ?_
  refine J_if_eq (pc' := 8) (tgt := 16) d_GR_read_5 rfl (by decide) (fun hc1 => ?_) (fun hc1 => ?_)
  · have hf := brT hc1 hf
    refine J_bipush (pc' := 18) (v := (-2)) d_GR_read_16 rfl bc_m2 ?_
    obtain ⟨rfl, rfl⟩ := resE hf
    exact J_iret d_GR_read_18
  · have hf := brF hc1 hf
    refine J_iload_n (pc' := 9) d_GR_read_8 rfl 2 rfl ?_
    refine J_iconst (pc' := 10) (v := 5) d_GR_read_9 rfl ic_5 ?_
    refine J_S (pc' := 13) (as := [.int v2, .int 5]) (rest := []) (st' := [.int (f_GR_isBelow v2 5)]) d_GR_read_10 rfl ms_GR_67 (ct_GR_isBelow V _ σ v2 5) rfl rfl ⟨Nat.le_of_ble_eq_true rfl, Nat.le_of_ble_eq_true rfl⟩ ⟨rfl, rfl⟩ (Nat.le_of_ble_eq_true rfl) rfl ?_
    refine J_if_ne (pc' := 16) (tgt := 19) d_GR_read_13 rfl (by decide) (fun hc2 => ?_) (fun hc2 => ?_)
    · have hf := brF hc2 hf
      refine J_aload_n (pc' := 20) d_GR_read_19 rfl 0 rfl ?_
      refine J_getR (pc' := 23) d_GR_read_20 rfl sh_0 fl_GR_63 rfl ?_
      refine J_iload_n (pc' := 24) d_GR_read_23 rfl 1 rfl ?_
      refine J_V (pc' := 27) (as := [.int v1]) (rest := []) (st' := [rf V (f_Ss_at v1)]) d_GR_read_24 rfl sh_54 rfl mv_GR_157 (ct_Ss_at V _ σ v1) rfl rfl ⟨Nat.le_of_ble_eq_true rfl, Nat.le_of_ble_eq_true rfl⟩ ⟨rfl, rfl⟩ (Nat.le_of_ble_eq_true rfl) rfl ?_
      refine J_astore_n (pc' := 28) (lv' := [(3, rf V (f_Ss_at v1)), (0, rf V 0), (1, .int v1), (2, .int v2)]) d_GR_read_27 rfl rfl (by decide) rfl ?_
      refine J_aload_n (pc' := 29) d_GR_read_28 rfl 0 rfl ?_
      refine J_V (pc' := 32) (as := []) (rest := []) (st' := [.int (f_Sh_isLost σ (f_Ss_at v1))]) d_GR_read_29 rfl (sh_Sh (is_Ss_at v1)) rfl mv_GR_160 (ct_Sh_isLost V _ σ (f_Ss_at v1) (is_Ss_at v1)) rfl rfl ⟨Nat.le_of_ble_eq_true rfl, Nat.le_of_ble_eq_true rfl⟩ ⟨rfl, rfl⟩ (Nat.le_of_ble_eq_true rfl) rfl ?_
      refine J_if_eq (pc' := 35) (tgt := 44) d_GR_read_32 rfl (by decide) (fun hc3 => ?_) (fun hc3 => ?_)
      · have hf := brT hc3 hf
        refine J_iconst (pc' := 45) (v := 0) d_GR_read_44 rfl ic_0 ?_
        refine J_istore (pc' := 47) (lv' := [(4, .int 0), (3, rf V (f_Ss_at v1)), (0, rf V 0), (1, .int v1), (2, .int v2)]) d_GR_read_45 rfl (by decide) rfl ?_
        refine J_iconst (pc' := 48) (v := 0) d_GR_read_47 rfl ic_0 ?_
        refine J_istore (pc' := 50) (lv' := [(5, .int 0), (4, .int 0), (3, rf V (f_Ss_at v1)), (0, rf V 0), (1, .int v1), (2, .int v2)]) d_GR_read_48 rfl (by decide) rfl ?_
        refine J_pick [3, 5, 2, 1, 0] rfl ?_
        exact j_GR_read_50 FU _ _ _ _ _ (is_Ss_at v1) hf
      · have hf := brF hc3 hf
        refine J_aload_n (pc' := 36) d_GR_read_35 rfl 1 rfl ?_
        refine J_getR (pc' := 39) d_GR_read_36 rfl sh_0 fl_GR_63 rfl ?_
        refine J_iconst (pc' := 40) (v := 1) d_GR_read_39 rfl ic_1 ?_
        obtain ⟨r11, σ10, hq9, hf⟩ := bdE hf
        refine J_V (pc' := 43) (as := [.int 1]) (rest := []) (st' := [.int r11]) d_GR_read_40 rfl sh_54 rfl mv_GR_165 (ct_Ss_find V _ σ 1 hq9) rfl rfl ⟨Nat.le_of_ble_eq_true rfl, Nat.le_of_ble_eq_true rfl⟩ ⟨rfl, rfl⟩ (Nat.le_of_ble_eq_true rfl) rfl ?_
        obtain ⟨rfl, rfl⟩ := resE hf
        exact J_iret d_GR_read_43
    · have hf := brT hc2 hf
      refine J_bipush (pc' := 18) (v := (-2)) d_GR_read_16 rfl bc_m2 ?_
      obtain ⟨rfl, rfl⟩ := resE hf
      exact J_iret d_GR_read_18
theorem ct_GR_read (V : Vx) (l : Launch) (σ : Sg) (v1 : Int32) (v2 : Int32) {r : Int32} {σ' : Sg} (hf : f_GR_read σ v1 v2 = some (r, σ')) : Ct V l y_GR_read c_GR_read 6 (some .int) (k2_rm 3 69) [rf V 0, .int v1, .int v2] σ (some (.int r)) σ' := Ct.ofJ (by decide +kernel) (Nat.le_of_ble_eq_true rfl) fun X _ => j_GR_read _ v1 v2 hf
def f_Ts_dropLast (σ : Sg)  : Option Sg :=
  some (pI σ 18 2 (f_JM_max 0 ((σ.1 18 2) - 1)))
set_option maxHeartbeats 4000000 in
theorem j_Ts_dropLast {V : Vx} {X : Xx} {σ' : Sg} (σ : Sg) (hf : f_Ts_dropLast σ = some σ') : J V X (k2_rm 1 21) c_Ts_dropLast R_Ts 1 none (Qr V X none σ') σ 0 [(0, rf V 18)] [] := by
  unfold f_Ts_dropLast at hf
  refine J_aload_n (pc' := 1) d_Ts_dropLast_0 rfl 0 rfl ?_
  refine J_iconst (pc' := 2) (v := 0) d_Ts_dropLast_1 rfl ic_0 ?_
  refine J_aload_n (pc' := 3) d_Ts_dropLast_2 rfl 0 rfl ?_
  refine J_getI (pc' := 6) d_Ts_dropLast_3 rfl sh_18 fl_Ts_22 rfl ?_
  refine J_iconst (pc' := 7) (v := 1) d_Ts_dropLast_6 rfl ic_1 ?_
  refine J_isub (pc' := 8) d_Ts_dropLast_7 rfl ?_
  refine J_S (pc' := 11) (as := [.int 0, .int ((σ.1 18 2) - 1)]) (rest := [rf V 18]) (st' := [.int (f_JM_max 0 ((σ.1 18 2) - 1)), rf V 18]) d_Ts_dropLast_8 rfl ms_Ts_53 (ct_JM_max V _ σ 0 ((σ.1 18 2) - 1)) rfl rfl ⟨Nat.le_of_ble_eq_true rfl, Nat.le_of_ble_eq_true rfl⟩ ⟨rfl, rfl⟩ (Nat.le_of_ble_eq_true rfl) rfl ?_
  refine J_putI (pc' := 14) d_Ts_dropLast_11 rfl sh_18 fp_Ts_22 rfl ?_
  obtain rfl := Option.some.inj hf
  exact J_vret d_Ts_dropLast_14
theorem ct_Ts_dropLast (V : Vx) (l : Launch) (σ : Sg) {σ' : Sg} (hf : f_Ts_dropLast σ = some σ') : Ct V l y_Ts_dropLast c_Ts_dropLast 1 none (k2_rm 1 21) [rf V 18] σ none σ' := Ct.ofJ (by decide +kernel) (Nat.le_of_ble_eq_true rfl) fun X _ => j_Ts_dropLast _  hf
def f_GR_undo (σ : Sg)  : Option (Int32 × Sg) :=
  if 1 ≤ (σ.1 18 2) then
    (f_Ts_dropLast σ).bind fun σ3 =>
      some (σ3.1 18 2, σ3)
  else
    some ((-3), σ)
set_option maxHeartbeats 4000000 in
theorem j_GR_undo {V : Vx} {X : Xx} {r : Int32} {σ' : Sg} (σ : Sg) (hf : f_GR_undo σ = some (r, σ')) : J V X (k2_rm 2 41) c_GR_undo R_GR 1 (some .int) (Qr V X (some (.int r)) σ') σ 0 [(0, rf V 0)] [] := by
  unfold f_GR_undo at hf
  refine J_aload_n (pc' := 1) d_GR_undo_0 rfl 0 rfl ?_
  refine J_getR (pc' := 4) d_GR_undo_1 rfl sh_0 fl_GR_35 rfl ?_
  refine J_getI (pc' := 7) d_GR_undo_4 rfl sh_18 fl_GR_154 rfl ?_
  refine J_iconst (pc' := 8) (v := 1) d_GR_undo_7 rfl ic_1 ?_
  refine J_icmp_ge (pc' := 11) (tgt := 14) d_GR_undo_8 rfl (by decide) (fun hc1 => ?_) (fun hc1 => ?_)
  · have hf := brT hc1 hf
    refine J_aload_n (pc' := 15) d_GR_undo_14 rfl 0 rfl ?_
    refine J_getR (pc' := 18) d_GR_undo_15 rfl sh_0 fl_GR_35 rfl ?_
    obtain ⟨σ3, hq2, hf⟩ := bpE hf
    refine J_V (pc' := 21) (as := []) (rest := []) (st' := []) d_GR_undo_18 rfl sh_18 rfl mv_GR_172 (ct_Ts_dropLast V _ σ hq2) rfl rfl ⟨Nat.le_of_ble_eq_true rfl, Nat.le_of_ble_eq_true rfl⟩ ⟨rfl, rfl⟩ (Nat.le_of_ble_eq_true rfl) rfl ?_
    refine J_aload_n (pc' := 22) d_GR_undo_21 rfl 0 rfl ?_
    refine J_getR (pc' := 25) d_GR_undo_22 rfl sh_0 fl_GR_35 rfl ?_
    refine J_getI (pc' := 28) d_GR_undo_25 rfl sh_18 fl_GR_154 rfl ?_
    obtain ⟨rfl, rfl⟩ := resE hf
    exact J_iret d_GR_undo_28
  · have hf := brF hc1 hf
    refine J_bipush (pc' := 13) (v := (-3)) d_GR_undo_11 rfl bc_m3 ?_
    obtain ⟨rfl, rfl⟩ := resE hf
    exact J_iret d_GR_undo_13
theorem ct_GR_undo (V : Vx) (l : Launch) (σ : Sg) {r : Int32} {σ' : Sg} (hf : f_GR_undo σ = some (r, σ')) : Ct V l y_GR_undo c_GR_undo 1 (some .int) (k2_rm 2 41) [rf V 0] σ (some (.int r)) σ' := Ct.ofJ (by decide +kernel) (Nat.le_of_ble_eq_true rfl) fun X _ => j_GR_undo _  hf
def f_Ts_has (σ : Sg) (v1 : Int32) : Int32 :=
  zb (f_GR_isBelow v1 (σ.1 18 2))
set_option maxHeartbeats 4000000 in
theorem j_Ts_has {V : Vx} {X : Xx} {r : Int32} (σ : Sg) (v1 : Int32) (hf : f_Ts_has σ v1 = r) : J V X (k2_rm 1 21) c_Ts_has R_Ts 2 (some .boolean) (Qr V X (some (.int r)) σ) σ 0 [(0, rf V 18), (1, .int v1)] [] := by
  unfold f_Ts_has at hf
  refine J_iload_n (pc' := 1) d_Ts_has_0 rfl 1 rfl ?_
  refine J_aload_n (pc' := 2) d_Ts_has_1 rfl 0 rfl ?_
  refine J_getI (pc' := 5) d_Ts_has_2 rfl sh_18 fl_Ts_22 rfl ?_
  refine J_S (pc' := 8) (as := [.int v1, .int (σ.1 18 2)]) (rest := []) (st' := [.int (f_GR_isBelow v1 (σ.1 18 2))]) d_Ts_has_5 rfl ms_Ts_26 (ct_GR_isBelow V _ σ v1 (σ.1 18 2)) rfl rfl ⟨Nat.le_of_ble_eq_true rfl, Nat.le_of_ble_eq_true rfl⟩ ⟨rfl, rfl⟩ (Nat.le_of_ble_eq_true rfl) rfl ?_
  subst hf
  exact J_zretG d_Ts_has_8
theorem ct_Ts_has (V : Vx) (l : Launch) (σ : Sg) (v1 : Int32) : Ct V l y_Ts_has c_Ts_has 2 (some .boolean) (k2_rm 1 21) [rf V 18, .int v1] σ (some (.int (f_Ts_has σ v1))) σ := Ct.ofJ (by decide +kernel) (Nat.le_of_ble_eq_true rfl) fun X _ => j_Ts_has _ v1 rfl
def f_Tt_begin (σ : Sg) (v1 : Int32) (v2 : Int32) : Option Sg :=
  if (f_GR_isBelow v1 20) = 0 then some σ else some (pI σ 42 v1.toNatClampNeg v2)
set_option maxHeartbeats 4000000 in
theorem j_Tt_begin {V : Vx} {X : Xx} {σ' : Sg} (σ : Sg) (v1 : Int32) (v2 : Int32) (hf : f_Tt_begin σ v1 v2 = some σ') : J V X (k2_rm 1 21) c_Tt_begin R_Tt 3 none (Qr V X none σ') σ 0 [(0, rf V 41), (1, .int v1), (2, .int v2)] [] := by
  unfold f_Tt_begin at hf
  refine J_iload_n (pc' := 1) d_Tt_begin_0 rfl 1 rfl ?_
  refine J_bipush (pc' := 3) (v := 20) d_Tt_begin_1 rfl bc_20 ?_
  refine J_S (pc' := 6) (as := [.int v1, .int 20]) (rest := []) (st' := [.int (f_GR_isBelow v1 20)]) d_Tt_begin_3 rfl ms_Tt_15 (ct_GR_isBelow V _ σ v1 20) rfl rfl ⟨Nat.le_of_ble_eq_true rfl, Nat.le_of_ble_eq_true rfl⟩ ⟨rfl, rfl⟩ (Nat.le_of_ble_eq_true rfl) rfl ?_
  refine J_if_eq (pc' := 9) (tgt := 16) d_Tt_begin_6 rfl (by decide) (fun hc1 => ?_) (fun hc1 => ?_)
  · have hf := brT hc1 hf
    obtain rfl := Option.some.inj hf
    exact J_vret d_Tt_begin_16
  · have hf := brF hc1 hf
    refine J_aload_n (pc' := 10) d_Tt_begin_9 rfl 0 rfl ?_
    refine J_getR (pc' := 13) d_Tt_begin_10 rfl sh_41 fl_Tt_9 rfl ?_
    refine J_iload_n (pc' := 14) d_Tt_begin_13 rfl 1 rfl ?_
    refine J_iload_n (pc' := 15) d_Tt_begin_14 rfl 2 rfl ?_
    refine J_ias (pc' := 16) d_Tt_begin_15 rfl sh_42 (vin_b hc1) ?_
    obtain rfl := Option.some.inj hf
    exact J_vret d_Tt_begin_16
theorem ct_Tt_begin (V : Vx) (l : Launch) (σ : Sg) (v1 : Int32) (v2 : Int32) {σ' : Sg} (hf : f_Tt_begin σ v1 v2 = some σ') : Ct V l y_Tt_begin c_Tt_begin 3 none (k2_rm 1 21) [rf V 41, .int v1, .int v2] σ none σ' := Ct.ofJ (by decide +kernel) (Nat.le_of_ble_eq_true rfl) fun X _ => j_Tt_begin _ v1 v2 hf
def f_Tt_beginAsTold_40 (k2 : Sg → Int32 → Option Sg) (σ : Sg) (v3 : Int32) (s0 : Int32) (s1 : Int32) : Option Sg :=
  (f_Tt_begin σ s1 s0).bind fun σ4 =>
    k2 σ4 (v3 + 1)
set_option maxHeartbeats 4000000 in
theorem j_Tt_beginAsTold_40 {V : Vx} {X : Xx} {σ' : Sg} {k2 : Sg → Int32 → Option Sg} (hk2 : ∀ (σ : Sg) (v3 : Int32), k2 σ v3 = some σ' → J V X (k2_rm 2 43) c_Tt_beginAsTold R_Tt 5 none (Qr V X none σ') σ 2 [(0, rf V 41), (1, rf V 5), (2, rf V 18), (3, .int v3)] []) (σ : Sg) (v3 : Int32) (s0 : Int32) (s1 : Int32) (hf : f_Tt_beginAsTold_40 k2 σ v3 s0 s1 = some σ') : J V X (k2_rm 2 43) c_Tt_beginAsTold R_Tt 5 none (Qr V X none σ') σ 40 [(0, rf V 41), (1, rf V 5), (2, rf V 18), (3, .int v3)] [.int s0, .int s1, rf V 41] := by
  unfold f_Tt_beginAsTold_40 at hf
  obtain ⟨σ4, hq3, hf⟩ := bpE hf
  refine J_V (pc' := 43) (as := [.int s1, .int s0]) (rest := []) (st' := []) d_Tt_beginAsTold_40 rfl sh_41 rfl mv_Tt_43 (ct_Tt_begin V _ σ s1 s0 hq3) rfl rfl ⟨Nat.le_of_ble_eq_true rfl, Nat.le_of_ble_eq_true rfl⟩ ⟨rfl, rfl⟩ (Nat.le_of_ble_eq_true rfl) rfl ?_
  refine J_iinc (pc' := 46) (j := 3) (v := 1) (lv' := [(3, .int (v3 + 1)), (0, rf V 41), (1, rf V 5), (2, rf V 18)]) d_Tt_beginAsTold_43 rfl rfl ic_1 (by decide) rfl ?_
  refine J_goto (tgt := 2) d_Tt_beginAsTold_46 (by decide) ?_
  refine J_pick [1, 2, 3, 0] rfl ?_
  exact hk2 _ _ hf
def f_Tt_beginAsTold_2 : Nat → Sg → Int32 → Option Sg
  | 0, _, _ => none
  | n + 1, σ, v3 =>
    if (σ.1 18 2) ≤ v3 then
      some σ
    else
      if (f_Rs_has σ (σ.1 (f_Ts_at v3) 0)) = 0 then
        f_Tt_beginAsTold_40 (f_Tt_beginAsTold_2 n) σ v3 (-1) v3
      else
        f_Tt_beginAsTold_40 (f_Tt_beginAsTold_2 n) σ v3 (σ.1 (f_Ts_at v3) 2) v3
theorem f_Tt_beginAsTold_2_s (n : Nat) (σ : Sg) (v3 : Int32) : f_Tt_beginAsTold_2 (n + 1) σ v3 =
    if (σ.1 18 2) ≤ v3 then
      some σ
    else
      if (f_Rs_has σ (σ.1 (f_Ts_at v3) 0)) = 0 then
        f_Tt_beginAsTold_40 (f_Tt_beginAsTold_2 n) σ v3 (-1) v3
      else
        f_Tt_beginAsTold_40 (f_Tt_beginAsTold_2 n) σ v3 (σ.1 (f_Ts_at v3) 2) v3 := rfl
set_option maxHeartbeats 4000000 in
theorem j_Tt_beginAsTold_2 {V : Vx} {X : Xx} {σ' : Sg}  : ∀ (n : Nat) (σ : Sg) (v3 : Int32), f_Tt_beginAsTold_2 n σ v3 = some σ' → J V X (k2_rm 2 43) c_Tt_beginAsTold R_Tt 5 none (Qr V X none σ') σ 2 [(0, rf V 41), (1, rf V 5), (2, rf V 18), (3, .int v3)] [] := by
  intro n
  induction n with
  | zero => intro σ v3 hf; exact nn hf
  | succ n ih =>
    intro σ v3 hf
    rw [f_Tt_beginAsTold_2_s] at hf
    refine J_iload_n (pc' := 3) d_Tt_beginAsTold_2 rfl 3 rfl ?_
    refine J_aload_n (pc' := 4) d_Tt_beginAsTold_3 rfl 2 rfl ?_
    refine J_getI (pc' := 7) d_Tt_beginAsTold_4 rfl sh_18 fl_Tt_19 rfl ?_
    refine J_icmp_ge (pc' := 10) (tgt := 49) d_Tt_beginAsTold_7 rfl (by decide) (fun hc1 => ?_) (fun hc1 => ?_)
    · have hf := brT hc1 hf
      obtain rfl := Option.some.inj hf
      exact J_vret d_Tt_beginAsTold_49
    · have hf := brF hc1 hf
      refine J_aload_n (pc' := 11) d_Tt_beginAsTold_10 rfl 2 rfl ?_
      refine J_iload_n (pc' := 12) d_Tt_beginAsTold_11 rfl 3 rfl ?_
      refine J_V (pc' := 15) (as := [.int v3]) (rest := []) (st' := [rf V (f_Ts_at v3)]) d_Tt_beginAsTold_12 rfl sh_18 rfl mv_Tt_25 (ct_Ts_at V _ σ v3) rfl rfl ⟨Nat.le_of_ble_eq_true rfl, Nat.le_of_ble_eq_true rfl⟩ ⟨rfl, rfl⟩ (Nat.le_of_ble_eq_true rfl) rfl ?_
      refine J_astore (pc' := 17) (lv' := [(4, rf V (f_Ts_at v3)), (0, rf V 41), (1, rf V 5), (2, rf V 18), (3, .int v3)]) d_Tt_beginAsTold_15 rfl (by decide) rfl ?_
      refine J_aload_n (pc' := 18) d_Tt_beginAsTold_17 rfl 1 rfl ?_
      refine J_iload_n (pc' := 19) d_Tt_beginAsTold_18 rfl 4 rfl ?_
      refine J_aload_n (pc' := 20) d_Tt_beginAsTold_19 rfl 2 rfl ?_
      refine J_aload (pc' := 22) d_Tt_beginAsTold_20 rfl 0 rfl ?_
      refine J_getI (pc' := 25) d_Tt_beginAsTold_22 rfl (sh_Tr (is_Ts_at v3)) fl_Tt_29 rfl ?_
      refine J_V (pc' := 28) (as := [.int (σ.1 (f_Ts_at v3) 0)]) (rest := [.int v3, rf V 41]) (st' := [.int (f_Rs_has σ (σ.1 (f_Ts_at v3) 0)), .int v3, rf V 41]) d_Tt_beginAsTold_25 rfl sh_5 rfl mv_Tt_34 (ct_Rs_has V _ σ (σ.1 (f_Ts_at v3) 0)) rfl rfl ⟨Nat.le_of_ble_eq_true rfl, Nat.le_of_ble_eq_true rfl⟩ ⟨rfl, rfl⟩ (Nat.le_of_ble_eq_true rfl) rfl ?_
      refine J_if_eq (pc' := 31) (tgt := 39) d_Tt_beginAsTold_28 rfl (by decide) (fun hc2 => ?_) (fun hc2 => ?_)
      · have hf := brT hc2 hf
        refine J_iconst (pc' := 40) (v := (-1)) d_Tt_beginAsTold_39 rfl ic_m1 ?_
        refine J_pick [1, 2, 3, 4] rfl ?_
        exact j_Tt_beginAsTold_40 ih _ _ _ _ hf
      · have hf := brF hc2 hf
        refine J_aload (pc' := 33) d_Tt_beginAsTold_31 rfl 0 rfl ?_
        refine J_getI (pc' := 36) d_Tt_beginAsTold_33 rfl (sh_Tr (is_Ts_at v3)) fl_Tt_40 rfl ?_
        refine J_goto (tgt := 40) d_Tt_beginAsTold_36 (by decide) ?_
        refine J_pick [1, 2, 3, 4] rfl ?_
        exact j_Tt_beginAsTold_40 ih _ _ _ _ hf
def f_Tt_beginAsTold (σ : Sg)  : Option Sg :=
  f_Tt_beginAsTold_2 FU σ 0
set_option maxHeartbeats 4000000 in
theorem j_Tt_beginAsTold {V : Vx} {X : Xx} {σ' : Sg} (σ : Sg) (hf : f_Tt_beginAsTold σ = some σ') : J V X (k2_rm 2 43) c_Tt_beginAsTold R_Tt 5 none (Qr V X none σ') σ 0 [(0, rf V 41), (1, rf V 5), (2, rf V 18)] [] := by
  unfold f_Tt_beginAsTold at hf
  refine J_iconst (pc' := 1) (v := 0) d_Tt_beginAsTold_0 rfl ic_0 ?_
  refine J_istore_n (pc' := 2) (lv' := [(3, .int 0), (0, rf V 41), (1, rf V 5), (2, rf V 18)]) d_Tt_beginAsTold_1 rfl rfl (by decide) rfl ?_
  refine J_pick [1, 2, 3, 0] rfl ?_
  exact j_Tt_beginAsTold_2 FU _ _ hf
theorem ct_Tt_beginAsTold (V : Vx) (l : Launch) (σ : Sg) {σ' : Sg} (hf : f_Tt_beginAsTold σ = some σ') : Ct V l y_Tt_beginAsTold c_Tt_beginAsTold 5 none (k2_rm 2 43) [rf V 41, rf V 5, rf V 18] σ none σ' := Ct.ofJ (by decide +kernel) (Nat.le_of_ble_eq_true rfl) fun X _ => j_Tt_beginAsTold _  hf
def f_Tt_startOf (σ : Sg) (v1 : Int32) : Int32 :=
  if (f_GR_isBelow v1 20) = 0 then (-1) else σ.1 42 v1.toNatClampNeg
set_option maxHeartbeats 4000000 in
theorem j_Tt_startOf {V : Vx} {X : Xx} {r : Int32} (σ : Sg) (v1 : Int32) (hf : f_Tt_startOf σ v1 = r) : J V X (k2_rm 1 21) c_Tt_startOf R_Tt 2 (some .int) (Qr V X (some (.int r)) σ) σ 0 [(0, rf V 41), (1, .int v1)] [] := by
  unfold f_Tt_startOf at hf
  refine J_iload_n (pc' := 1) d_Tt_startOf_0 rfl 1 rfl ?_
  refine J_bipush (pc' := 3) (v := 20) d_Tt_startOf_1 rfl bc_20 ?_
  refine J_S (pc' := 6) (as := [.int v1, .int 20]) (rest := []) (st' := [.int (f_GR_isBelow v1 20)]) d_Tt_startOf_3 rfl ms_Tt_15 (ct_GR_isBelow V _ σ v1 20) rfl rfl ⟨Nat.le_of_ble_eq_true rfl, Nat.le_of_ble_eq_true rfl⟩ ⟨rfl, rfl⟩ (Nat.le_of_ble_eq_true rfl) rfl ?_
  refine J_if_eq (pc' := 9) (tgt := 18) d_Tt_startOf_6 rfl (by decide) (fun hc1 => ?_) (fun hc1 => ?_)
  · have hf := brT hc1 hf
    refine J_iconst (pc' := 19) (v := (-1)) d_Tt_startOf_18 rfl ic_m1 ?_
    subst hf
    exact J_iret d_Tt_startOf_19
  · have hf := brF hc1 hf
    refine J_aload_n (pc' := 10) d_Tt_startOf_9 rfl 0 rfl ?_
    refine J_getR (pc' := 13) d_Tt_startOf_10 rfl sh_41 fl_Tt_9 rfl ?_
    refine J_iload_n (pc' := 14) d_Tt_startOf_13 rfl 1 rfl ?_
    refine J_ial (pc' := 15) d_Tt_startOf_14 rfl sh_42 (vin_b hc1) ?_
    refine J_goto (tgt := 19) d_Tt_startOf_15 (by decide) ?_
    subst hf
    exact J_iret d_Tt_startOf_19
theorem ct_Tt_startOf (V : Vx) (l : Launch) (σ : Sg) (v1 : Int32) : Ct V l y_Tt_startOf c_Tt_startOf 2 (some .int) (k2_rm 1 21) [rf V 41, .int v1] σ (some (.int (f_Tt_startOf σ v1))) σ := Ct.ofJ (by decide +kernel) (Nat.le_of_ble_eq_true rfl) fun X _ => j_Tt_startOf _ v1 rfl
def f_Tt_collide (σ : Sg) (v3 : Int32) (v4 : Int32) (v5 : Int32) : Int32 :=
  if (f_Tt_startOf σ v3) = (-1) then
    0
  else
    if (f_Tt_startOf σ v4) = (-1) then
      0
    else
      if (σ.1 (f_Ts_at v3) 0) = (σ.1 (f_Ts_at v4) 0) then
        if ((f_Tt_startOf σ v4) + (f_Ro_minutes σ (f_Rs_at (σ.1 (f_Ts_at v4) 0)) (σ.1 (f_Ts_at v4) 1))) ≤ (f_Tt_startOf σ v3) then
          0
        else
          if ((f_Tt_startOf σ v3) + (f_Ro_minutes σ (f_Rs_at (σ.1 (f_Ts_at v3) 0)) (σ.1 (f_Ts_at v3) 1))) ≤ (f_Tt_startOf σ v4) then 0 else 1
      else
        if (f_Ro_meets σ (f_Rs_at (σ.1 (f_Ts_at v3) 0)) (f_Rs_at (σ.1 (f_Ts_at v4) 0))) = 0 then
          0
        else
          if (v5 * (f_Ro_span σ (f_Rs_at (σ.1 (f_Ts_at v3) 0)) (f_Rs_at (σ.1 (f_Ts_at v4) 0)))) ≤ (f_JM_abs ((((f_Tt_startOf σ v3) * (f_Ro_span σ (f_Rs_at (σ.1 (f_Ts_at v3) 0)) (f_Rs_at (σ.1 (f_Ts_at v4) 0)))) + ((f_Ro_minutes σ (f_Rs_at (σ.1 (f_Ts_at v3) 0)) (σ.1 (f_Ts_at v3) 1)) * (f_Ro_apart σ (f_Rs_at (σ.1 (f_Ts_at v3) 0)) (f_Rs_at (σ.1 (f_Ts_at v4) 0)) (σ.1 (f_Ts_at v3) 1)))) - (((f_Tt_startOf σ v4) * (f_Ro_span σ (f_Rs_at (σ.1 (f_Ts_at v3) 0)) (f_Rs_at (σ.1 (f_Ts_at v4) 0)))) + ((f_Ro_minutes σ (f_Rs_at (σ.1 (f_Ts_at v4) 0)) (σ.1 (f_Ts_at v4) 1)) * (f_Ro_apart σ (f_Rs_at (σ.1 (f_Ts_at v4) 0)) (f_Rs_at (σ.1 (f_Ts_at v3) 0)) (σ.1 (f_Ts_at v4) 1)))))) then 0 else 1
set_option maxHeartbeats 4000000 in
theorem j_Tt_collide {V : Vx} {X : Xx} {r : Int32} (σ : Sg) (v3 : Int32) (v4 : Int32) (v5 : Int32) (hf : f_Tt_collide σ v3 v4 v5 = r) : J V X (k2_rm 3 63) c_Tt_collide R_Tt 17 (some .boolean) (Qr V X (some (.int r)) σ) σ 0 [(0, rf V 41), (1, rf V 5), (2, rf V 18), (3, .int v3), (4, .int v4), (5, .int v5)] [] := by
  unfold f_Tt_collide at hf
  refine J_aload_n (pc' := 1) d_Tt_collide_0 rfl 0 rfl ?_
  refine J_iload_n (pc' := 2) d_Tt_collide_1 rfl 3 rfl ?_
  refine J_V (pc' := 5) (as := [.int v3]) (rest := []) (st' := [.int (f_Tt_startOf σ v3)]) d_Tt_collide_2 rfl sh_41 rfl mv_Tt_75 (ct_Tt_startOf V _ σ v3) rfl rfl ⟨Nat.le_of_ble_eq_true rfl, Nat.le_of_ble_eq_true rfl⟩ ⟨rfl, rfl⟩ (Nat.le_of_ble_eq_true rfl) rfl ?_
  refine J_istore (pc' := 7) (lv' := [(6, .int (f_Tt_startOf σ v3)), (0, rf V 41), (1, rf V 5), (2, rf V 18), (3, .int v3), (4, .int v4), (5, .int v5)]) d_Tt_collide_5 rfl (by decide) rfl ?_
  refine J_aload_n (pc' := 8) d_Tt_collide_7 rfl 1 rfl ?_
  refine J_iload (pc' := 10) d_Tt_collide_8 rfl 5 rfl ?_
  refine J_V (pc' := 13) (as := [.int v4]) (rest := []) (st' := [.int (f_Tt_startOf σ v4)]) d_Tt_collide_10 rfl sh_41 rfl mv_Tt_75 (ct_Tt_startOf V _ σ v4) rfl rfl ⟨Nat.le_of_ble_eq_true rfl, Nat.le_of_ble_eq_true rfl⟩ ⟨rfl, rfl⟩ (Nat.le_of_ble_eq_true rfl) rfl ?_
  refine J_istore (pc' := 15) (lv' := [(7, .int (f_Tt_startOf σ v4)), (6, .int (f_Tt_startOf σ v3)), (0, rf V 41), (1, rf V 5), (2, rf V 18), (3, .int v3), (4, .int v4), (5, .int v5)]) d_Tt_collide_13 rfl (by decide) rfl ?_
  refine J_iload (pc' := 17) d_Tt_collide_15 rfl 1 rfl ?_
  refine J_iconst (pc' := 18) (v := (-1)) d_Tt_collide_17 rfl ic_m1 ?_
  refine J_icmp_eq (pc' := 21) (tgt := 27) d_Tt_collide_18 rfl (by decide) (fun hc1 => ?_) (fun hc1 => ?_)
  · have hf := brT hc1 hf
    refine J_iconst (pc' := 28) (v := 0) d_Tt_collide_27 rfl ic_0 ?_
    subst hf
    exact J_zret (by decide) d_Tt_collide_28
  · have hf := brF hc1 hf
    refine J_iload (pc' := 23) d_Tt_collide_21 rfl 0 rfl ?_
    refine J_iconst (pc' := 24) (v := (-1)) d_Tt_collide_23 rfl ic_m1 ?_
    refine J_icmp_ne (pc' := 27) (tgt := 29) d_Tt_collide_24 rfl (by decide) (fun hc2 => ?_) (fun hc2 => ?_)
    · have hf := brF hc2 hf
      refine J_aload_n (pc' := 30) d_Tt_collide_29 rfl 4 rfl ?_
      refine J_iload_n (pc' := 31) d_Tt_collide_30 rfl 5 rfl ?_
      refine J_V (pc' := 34) (as := [.int v3]) (rest := []) (st' := [rf V (f_Ts_at v3)]) d_Tt_collide_31 rfl sh_18 rfl mv_Tt_25 (ct_Ts_at V _ σ v3) rfl rfl ⟨Nat.le_of_ble_eq_true rfl, Nat.le_of_ble_eq_true rfl⟩ ⟨rfl, rfl⟩ (Nat.le_of_ble_eq_true rfl) rfl ?_
      refine J_astore (pc' := 36) (lv' := [(8, rf V (f_Ts_at v3)), (7, .int (f_Tt_startOf σ v4)), (6, .int (f_Tt_startOf σ v3)), (0, rf V 41), (1, rf V 5), (2, rf V 18), (3, .int v3), (4, .int v4), (5, .int v5)]) d_Tt_collide_34 rfl (by decide) rfl ?_
      refine J_aload_n (pc' := 37) d_Tt_collide_36 rfl 5 rfl ?_
      refine J_iload (pc' := 39) d_Tt_collide_37 rfl 7 rfl ?_
      refine J_V (pc' := 42) (as := [.int v4]) (rest := []) (st' := [rf V (f_Ts_at v4)]) d_Tt_collide_39 rfl sh_18 rfl mv_Tt_25 (ct_Ts_at V _ σ v4) rfl rfl ⟨Nat.le_of_ble_eq_true rfl, Nat.le_of_ble_eq_true rfl⟩ ⟨rfl, rfl⟩ (Nat.le_of_ble_eq_true rfl) rfl ?_
      refine J_astore (pc' := 44) (lv' := [(9, rf V (f_Ts_at v4)), (8, rf V (f_Ts_at v3)), (7, .int (f_Tt_startOf σ v4)), (6, .int (f_Tt_startOf σ v3)), (0, rf V 41), (1, rf V 5), (2, rf V 18), (3, .int v3), (4, .int v4), (5, .int v5)]) d_Tt_collide_42 rfl (by decide) rfl ?_
      refine J_aload_n (pc' := 45) d_Tt_collide_44 rfl 5 rfl ?_
      refine J_aload (pc' := 47) d_Tt_collide_45 rfl 1 rfl ?_
      refine J_getI (pc' := 50) d_Tt_collide_47 rfl (sh_Tr (is_Ts_at v3)) fl_Tt_29 rfl ?_
      refine J_V (pc' := 53) (as := [.int (σ.1 (f_Ts_at v3) 0)]) (rest := []) (st' := [rf V (f_Rs_at (σ.1 (f_Ts_at v3) 0))]) d_Tt_collide_50 rfl sh_5 rfl mv_Tt_78 (ct_Rs_at V _ σ (σ.1 (f_Ts_at v3) 0)) rfl rfl ⟨Nat.le_of_ble_eq_true rfl, Nat.le_of_ble_eq_true rfl⟩ ⟨rfl, rfl⟩ (Nat.le_of_ble_eq_true rfl) rfl ?_
      refine J_astore (pc' := 55) (lv' := [(10, rf V (f_Rs_at (σ.1 (f_Ts_at v3) 0))), (9, rf V (f_Ts_at v4)), (8, rf V (f_Ts_at v3)), (7, .int (f_Tt_startOf σ v4)), (6, .int (f_Tt_startOf σ v3)), (0, rf V 41), (1, rf V 5), (2, rf V 18), (3, .int v3), (4, .int v4), (5, .int v5)]) d_Tt_collide_53 rfl (by decide) rfl ?_
      refine J_aload_n (pc' := 56) d_Tt_collide_55 rfl 6 rfl ?_
      refine J_aload (pc' := 58) d_Tt_collide_56 rfl 1 rfl ?_
      refine J_getI (pc' := 61) d_Tt_collide_58 rfl (sh_Tr (is_Ts_at v4)) fl_Tt_29 rfl ?_
      refine J_V (pc' := 64) (as := [.int (σ.1 (f_Ts_at v4) 0)]) (rest := []) (st' := [rf V (f_Rs_at (σ.1 (f_Ts_at v4) 0))]) d_Tt_collide_61 rfl sh_5 rfl mv_Tt_78 (ct_Rs_at V _ σ (σ.1 (f_Ts_at v4) 0)) rfl rfl ⟨Nat.le_of_ble_eq_true rfl, Nat.le_of_ble_eq_true rfl⟩ ⟨rfl, rfl⟩ (Nat.le_of_ble_eq_true rfl) rfl ?_
      refine J_astore (pc' := 66) (lv' := [(11, rf V (f_Rs_at (σ.1 (f_Ts_at v4) 0))), (10, rf V (f_Rs_at (σ.1 (f_Ts_at v3) 0))), (9, rf V (f_Ts_at v4)), (8, rf V (f_Ts_at v3)), (7, .int (f_Tt_startOf σ v4)), (6, .int (f_Tt_startOf σ v3)), (0, rf V 41), (1, rf V 5), (2, rf V 18), (3, .int v3), (4, .int v4), (5, .int v5)]) d_Tt_collide_64 rfl (by decide) rfl ?_
      refine J_aload (pc' := 68) d_Tt_collide_66 rfl 1 rfl ?_
      refine J_aload (pc' := 70) d_Tt_collide_68 rfl 3 rfl ?_
      refine J_getI (pc' := 73) d_Tt_collide_70 rfl (sh_Tr (is_Ts_at v3)) fl_Tt_81 rfl ?_
      refine J_V (pc' := 76) (as := [.int (σ.1 (f_Ts_at v3) 1)]) (rest := []) (st' := [.int (f_Ro_minutes σ (f_Rs_at (σ.1 (f_Ts_at v3) 0)) (σ.1 (f_Ts_at v3) 1))]) d_Tt_collide_73 rfl (sh_Ro (is_Rs_at (σ.1 (f_Ts_at v3) 0))) rfl mv_Tt_84 (ct_Ro_minutes V _ σ (f_Rs_at (σ.1 (f_Ts_at v3) 0)) (σ.1 (f_Ts_at v3) 1) (is_Rs_at (σ.1 (f_Ts_at v3) 0))) rfl rfl ⟨Nat.le_of_ble_eq_true rfl, Nat.le_of_ble_eq_true rfl⟩ ⟨rfl, rfl⟩ (Nat.le_of_ble_eq_true rfl) rfl ?_
      refine J_istore (pc' := 78) (lv' := [(12, .int (f_Ro_minutes σ (f_Rs_at (σ.1 (f_Ts_at v3) 0)) (σ.1 (f_Ts_at v3) 1))), (11, rf V (f_Rs_at (σ.1 (f_Ts_at v4) 0))), (10, rf V (f_Rs_at (σ.1 (f_Ts_at v3) 0))), (9, rf V (f_Ts_at v4)), (8, rf V (f_Ts_at v3)), (7, .int (f_Tt_startOf σ v4)), (6, .int (f_Tt_startOf σ v3)), (0, rf V 41), (1, rf V 5), (2, rf V 18), (3, .int v3), (4, .int v4), (5, .int v5)]) d_Tt_collide_76 rfl (by decide) rfl ?_
      refine J_aload (pc' := 80) d_Tt_collide_78 rfl 1 rfl ?_
      refine J_aload (pc' := 82) d_Tt_collide_80 rfl 3 rfl ?_
      refine J_getI (pc' := 85) d_Tt_collide_82 rfl (sh_Tr (is_Ts_at v4)) fl_Tt_81 rfl ?_
      refine J_V (pc' := 88) (as := [.int (σ.1 (f_Ts_at v4) 1)]) (rest := []) (st' := [.int (f_Ro_minutes σ (f_Rs_at (σ.1 (f_Ts_at v4) 0)) (σ.1 (f_Ts_at v4) 1))]) d_Tt_collide_85 rfl (sh_Ro (is_Rs_at (σ.1 (f_Ts_at v4) 0))) rfl mv_Tt_84 (ct_Ro_minutes V _ σ (f_Rs_at (σ.1 (f_Ts_at v4) 0)) (σ.1 (f_Ts_at v4) 1) (is_Rs_at (σ.1 (f_Ts_at v4) 0))) rfl rfl ⟨Nat.le_of_ble_eq_true rfl, Nat.le_of_ble_eq_true rfl⟩ ⟨rfl, rfl⟩ (Nat.le_of_ble_eq_true rfl) rfl ?_
      refine J_istore (pc' := 90) (lv' := [(13, .int (f_Ro_minutes σ (f_Rs_at (σ.1 (f_Ts_at v4) 0)) (σ.1 (f_Ts_at v4) 1))), (12, .int (f_Ro_minutes σ (f_Rs_at (σ.1 (f_Ts_at v3) 0)) (σ.1 (f_Ts_at v3) 1))), (11, rf V (f_Rs_at (σ.1 (f_Ts_at v4) 0))), (10, rf V (f_Rs_at (σ.1 (f_Ts_at v3) 0))), (9, rf V (f_Ts_at v4)), (8, rf V (f_Ts_at v3)), (7, .int (f_Tt_startOf σ v4)), (6, .int (f_Tt_startOf σ v3)), (0, rf V 41), (1, rf V 5), (2, rf V 18), (3, .int v3), (4, .int v4), (5, .int v5)]) d_Tt_collide_88 rfl (by decide) rfl ?_
      refine J_aload (pc' := 92) d_Tt_collide_90 rfl 5 rfl ?_
      refine J_getI (pc' := 95) d_Tt_collide_92 rfl (sh_Tr (is_Ts_at v3)) fl_Tt_29 rfl ?_
      refine J_aload (pc' := 97) d_Tt_collide_95 rfl 4 rfl ?_
      refine J_getI (pc' := 100) d_Tt_collide_97 rfl (sh_Tr (is_Ts_at v4)) fl_Tt_29 rfl ?_
      refine J_icmp_ne (pc' := 103) (tgt := 129) d_Tt_collide_100 rfl (by decide) (fun hc3 => ?_) (fun hc3 => ?_)
      · have hf := brF hc3 hf
        refine J_aload (pc' := 131) d_Tt_collide_129 rfl 3 rfl ?_
        refine J_aload (pc' := 133) d_Tt_collide_131 rfl 2 rfl ?_
        refine J_V (pc' := 136) (as := [rf V (f_Rs_at (σ.1 (f_Ts_at v4) 0))]) (rest := []) (st' := [.int (f_Ro_meets σ (f_Rs_at (σ.1 (f_Ts_at v3) 0)) (f_Rs_at (σ.1 (f_Ts_at v4) 0)))]) d_Tt_collide_133 rfl (sh_Ro (is_Rs_at (σ.1 (f_Ts_at v3) 0))) rfl mv_Tt_89 (ct_Ro_meets V _ σ (f_Rs_at (σ.1 (f_Ts_at v3) 0)) (f_Rs_at (σ.1 (f_Ts_at v4) 0)) (is_Rs_at (σ.1 (f_Ts_at v3) 0)) (is_Rs_at (σ.1 (f_Ts_at v4) 0))) rfl rfl ⟨Nat.le_of_ble_eq_true rfl, Nat.le_of_ble_eq_true rfl⟩ ⟨rfl, rfl⟩ (Nat.le_of_ble_eq_true rfl) rfl ?_
        refine J_if_ne (pc' := 139) (tgt := 141) d_Tt_collide_136 rfl (by decide) (fun hc4 => ?_) (fun hc4 => ?_)
        · have hf := brF hc4 hf
          refine J_aload (pc' := 143) d_Tt_collide_141 rfl 3 rfl ?_
          refine J_aload (pc' := 145) d_Tt_collide_143 rfl 2 rfl ?_
          refine J_V (pc' := 148) (as := [rf V (f_Rs_at (σ.1 (f_Ts_at v4) 0))]) (rest := []) (st' := [.int (f_Ro_span σ (f_Rs_at (σ.1 (f_Ts_at v3) 0)) (f_Rs_at (σ.1 (f_Ts_at v4) 0)))]) d_Tt_collide_145 rfl (sh_Ro (is_Rs_at (σ.1 (f_Ts_at v3) 0))) rfl mv_Tt_93 (ct_Ro_span V _ σ (f_Rs_at (σ.1 (f_Ts_at v3) 0)) (f_Rs_at (σ.1 (f_Ts_at v4) 0)) (is_Rs_at (σ.1 (f_Ts_at v3) 0)) (is_Rs_at (σ.1 (f_Ts_at v4) 0))) rfl rfl ⟨Nat.le_of_ble_eq_true rfl, Nat.le_of_ble_eq_true rfl⟩ ⟨rfl, rfl⟩ (Nat.le_of_ble_eq_true rfl) rfl ?_
          refine J_istore (pc' := 150) (lv' := [(14, .int (f_Ro_span σ (f_Rs_at (σ.1 (f_Ts_at v3) 0)) (f_Rs_at (σ.1 (f_Ts_at v4) 0)))), (13, .int (f_Ro_minutes σ (f_Rs_at (σ.1 (f_Ts_at v4) 0)) (σ.1 (f_Ts_at v4) 1))), (12, .int (f_Ro_minutes σ (f_Rs_at (σ.1 (f_Ts_at v3) 0)) (σ.1 (f_Ts_at v3) 1))), (11, rf V (f_Rs_at (σ.1 (f_Ts_at v4) 0))), (10, rf V (f_Rs_at (σ.1 (f_Ts_at v3) 0))), (9, rf V (f_Ts_at v4)), (8, rf V (f_Ts_at v3)), (7, .int (f_Tt_startOf σ v4)), (6, .int (f_Tt_startOf σ v3)), (0, rf V 41), (1, rf V 5), (2, rf V 18), (3, .int v3), (4, .int v4), (5, .int v5)]) d_Tt_collide_148 rfl (by decide) rfl ?_
          refine J_iload (pc' := 152) d_Tt_collide_150 rfl 8 rfl ?_
          refine J_iload (pc' := 154) d_Tt_collide_152 rfl 0 rfl ?_
          refine J_imul (pc' := 155) d_Tt_collide_154 rfl ?_
          refine J_iload (pc' := 157) d_Tt_collide_155 rfl 2 rfl ?_
          refine J_aload (pc' := 159) d_Tt_collide_157 rfl 4 rfl ?_
          refine J_aload (pc' := 161) d_Tt_collide_159 rfl 3 rfl ?_
          refine J_aload (pc' := 163) d_Tt_collide_161 rfl 6 rfl ?_
          refine J_getI (pc' := 166) d_Tt_collide_163 rfl (sh_Tr (is_Ts_at v3)) fl_Tt_81 rfl ?_
          refine J_V (pc' := 169) (as := [rf V (f_Rs_at (σ.1 (f_Ts_at v4) 0)), .int (σ.1 (f_Ts_at v3) 1)]) (rest := [.int (f_Ro_minutes σ (f_Rs_at (σ.1 (f_Ts_at v3) 0)) (σ.1 (f_Ts_at v3) 1)), .int ((f_Tt_startOf σ v3) * (f_Ro_span σ (f_Rs_at (σ.1 (f_Ts_at v3) 0)) (f_Rs_at (σ.1 (f_Ts_at v4) 0))))]) (st' := [.int (f_Ro_apart σ (f_Rs_at (σ.1 (f_Ts_at v3) 0)) (f_Rs_at (σ.1 (f_Ts_at v4) 0)) (σ.1 (f_Ts_at v3) 1)), .int (f_Ro_minutes σ (f_Rs_at (σ.1 (f_Ts_at v3) 0)) (σ.1 (f_Ts_at v3) 1)), .int ((f_Tt_startOf σ v3) * (f_Ro_span σ (f_Rs_at (σ.1 (f_Ts_at v3) 0)) (f_Rs_at (σ.1 (f_Ts_at v4) 0))))]) d_Tt_collide_166 rfl (sh_Ro (is_Rs_at (σ.1 (f_Ts_at v3) 0))) rfl mv_Tt_97 (ct_Ro_apart V _ σ (f_Rs_at (σ.1 (f_Ts_at v3) 0)) (f_Rs_at (σ.1 (f_Ts_at v4) 0)) (σ.1 (f_Ts_at v3) 1) (is_Rs_at (σ.1 (f_Ts_at v3) 0)) (is_Rs_at (σ.1 (f_Ts_at v4) 0))) rfl rfl ⟨Nat.le_of_ble_eq_true rfl, Nat.le_of_ble_eq_true rfl⟩ ⟨rfl, rfl⟩ (Nat.le_of_ble_eq_true rfl) rfl ?_
          refine J_imul (pc' := 170) d_Tt_collide_169 rfl ?_
          refine J_iadd (pc' := 171) d_Tt_collide_170 rfl ?_
          refine J_istore (pc' := 173) (lv' := [(15, .int (((f_Tt_startOf σ v3) * (f_Ro_span σ (f_Rs_at (σ.1 (f_Ts_at v3) 0)) (f_Rs_at (σ.1 (f_Ts_at v4) 0)))) + ((f_Ro_minutes σ (f_Rs_at (σ.1 (f_Ts_at v3) 0)) (σ.1 (f_Ts_at v3) 1)) * (f_Ro_apart σ (f_Rs_at (σ.1 (f_Ts_at v3) 0)) (f_Rs_at (σ.1 (f_Ts_at v4) 0)) (σ.1 (f_Ts_at v3) 1))))), (14, .int (f_Ro_span σ (f_Rs_at (σ.1 (f_Ts_at v3) 0)) (f_Rs_at (σ.1 (f_Ts_at v4) 0)))), (13, .int (f_Ro_minutes σ (f_Rs_at (σ.1 (f_Ts_at v4) 0)) (σ.1 (f_Ts_at v4) 1))), (12, .int (f_Ro_minutes σ (f_Rs_at (σ.1 (f_Ts_at v3) 0)) (σ.1 (f_Ts_at v3) 1))), (11, rf V (f_Rs_at (σ.1 (f_Ts_at v4) 0))), (10, rf V (f_Rs_at (σ.1 (f_Ts_at v3) 0))), (9, rf V (f_Ts_at v4)), (8, rf V (f_Ts_at v3)), (7, .int (f_Tt_startOf σ v4)), (6, .int (f_Tt_startOf σ v3)), (0, rf V 41), (1, rf V 5), (2, rf V 18), (3, .int v3), (4, .int v4), (5, .int v5)]) d_Tt_collide_171 rfl (by decide) rfl ?_
          refine J_iload (pc' := 175) d_Tt_collide_173 rfl 8 rfl ?_
          refine J_iload (pc' := 177) d_Tt_collide_175 rfl 1 rfl ?_
          refine J_imul (pc' := 178) d_Tt_collide_177 rfl ?_
          refine J_iload (pc' := 180) d_Tt_collide_178 rfl 2 rfl ?_
          refine J_aload (pc' := 182) d_Tt_collide_180 rfl 4 rfl ?_
          refine J_aload (pc' := 184) d_Tt_collide_182 rfl 5 rfl ?_
          refine J_aload (pc' := 186) d_Tt_collide_184 rfl 6 rfl ?_
          refine J_getI (pc' := 189) d_Tt_collide_186 rfl (sh_Tr (is_Ts_at v4)) fl_Tt_81 rfl ?_
          refine J_V (pc' := 192) (as := [rf V (f_Rs_at (σ.1 (f_Ts_at v3) 0)), .int (σ.1 (f_Ts_at v4) 1)]) (rest := [.int (f_Ro_minutes σ (f_Rs_at (σ.1 (f_Ts_at v4) 0)) (σ.1 (f_Ts_at v4) 1)), .int ((f_Tt_startOf σ v4) * (f_Ro_span σ (f_Rs_at (σ.1 (f_Ts_at v3) 0)) (f_Rs_at (σ.1 (f_Ts_at v4) 0))))]) (st' := [.int (f_Ro_apart σ (f_Rs_at (σ.1 (f_Ts_at v4) 0)) (f_Rs_at (σ.1 (f_Ts_at v3) 0)) (σ.1 (f_Ts_at v4) 1)), .int (f_Ro_minutes σ (f_Rs_at (σ.1 (f_Ts_at v4) 0)) (σ.1 (f_Ts_at v4) 1)), .int ((f_Tt_startOf σ v4) * (f_Ro_span σ (f_Rs_at (σ.1 (f_Ts_at v3) 0)) (f_Rs_at (σ.1 (f_Ts_at v4) 0))))]) d_Tt_collide_189 rfl (sh_Ro (is_Rs_at (σ.1 (f_Ts_at v4) 0))) rfl mv_Tt_97 (ct_Ro_apart V _ σ (f_Rs_at (σ.1 (f_Ts_at v4) 0)) (f_Rs_at (σ.1 (f_Ts_at v3) 0)) (σ.1 (f_Ts_at v4) 1) (is_Rs_at (σ.1 (f_Ts_at v4) 0)) (is_Rs_at (σ.1 (f_Ts_at v3) 0))) rfl rfl ⟨Nat.le_of_ble_eq_true rfl, Nat.le_of_ble_eq_true rfl⟩ ⟨rfl, rfl⟩ (Nat.le_of_ble_eq_true rfl) rfl ?_
          refine J_imul (pc' := 193) d_Tt_collide_192 rfl ?_
          refine J_iadd (pc' := 194) d_Tt_collide_193 rfl ?_
          refine J_istore (pc' := 196) (lv' := [(16, .int (((f_Tt_startOf σ v4) * (f_Ro_span σ (f_Rs_at (σ.1 (f_Ts_at v3) 0)) (f_Rs_at (σ.1 (f_Ts_at v4) 0)))) + ((f_Ro_minutes σ (f_Rs_at (σ.1 (f_Ts_at v4) 0)) (σ.1 (f_Ts_at v4) 1)) * (f_Ro_apart σ (f_Rs_at (σ.1 (f_Ts_at v4) 0)) (f_Rs_at (σ.1 (f_Ts_at v3) 0)) (σ.1 (f_Ts_at v4) 1))))), (15, .int (((f_Tt_startOf σ v3) * (f_Ro_span σ (f_Rs_at (σ.1 (f_Ts_at v3) 0)) (f_Rs_at (σ.1 (f_Ts_at v4) 0)))) + ((f_Ro_minutes σ (f_Rs_at (σ.1 (f_Ts_at v3) 0)) (σ.1 (f_Ts_at v3) 1)) * (f_Ro_apart σ (f_Rs_at (σ.1 (f_Ts_at v3) 0)) (f_Rs_at (σ.1 (f_Ts_at v4) 0)) (σ.1 (f_Ts_at v3) 1))))), (14, .int (f_Ro_span σ (f_Rs_at (σ.1 (f_Ts_at v3) 0)) (f_Rs_at (σ.1 (f_Ts_at v4) 0)))), (13, .int (f_Ro_minutes σ (f_Rs_at (σ.1 (f_Ts_at v4) 0)) (σ.1 (f_Ts_at v4) 1))), (12, .int (f_Ro_minutes σ (f_Rs_at (σ.1 (f_Ts_at v3) 0)) (σ.1 (f_Ts_at v3) 1))), (11, rf V (f_Rs_at (σ.1 (f_Ts_at v4) 0))), (10, rf V (f_Rs_at (σ.1 (f_Ts_at v3) 0))), (9, rf V (f_Ts_at v4)), (8, rf V (f_Ts_at v3)), (7, .int (f_Tt_startOf σ v4)), (6, .int (f_Tt_startOf σ v3)), (0, rf V 41), (1, rf V 5), (2, rf V 18), (3, .int v3), (4, .int v4), (5, .int v5)]) d_Tt_collide_194 rfl (by decide) rfl ?_
          refine J_iload (pc' := 198) d_Tt_collide_196 rfl 1 rfl ?_
          refine J_iload (pc' := 200) d_Tt_collide_198 rfl 0 rfl ?_
          refine J_isub (pc' := 201) d_Tt_collide_200 rfl ?_
          refine J_S (pc' := 204) (as := [.int ((((f_Tt_startOf σ v3) * (f_Ro_span σ (f_Rs_at (σ.1 (f_Ts_at v3) 0)) (f_Rs_at (σ.1 (f_Ts_at v4) 0)))) + ((f_Ro_minutes σ (f_Rs_at (σ.1 (f_Ts_at v3) 0)) (σ.1 (f_Ts_at v3) 1)) * (f_Ro_apart σ (f_Rs_at (σ.1 (f_Ts_at v3) 0)) (f_Rs_at (σ.1 (f_Ts_at v4) 0)) (σ.1 (f_Ts_at v3) 1)))) - (((f_Tt_startOf σ v4) * (f_Ro_span σ (f_Rs_at (σ.1 (f_Ts_at v3) 0)) (f_Rs_at (σ.1 (f_Ts_at v4) 0)))) + ((f_Ro_minutes σ (f_Rs_at (σ.1 (f_Ts_at v4) 0)) (σ.1 (f_Ts_at v4) 1)) * (f_Ro_apart σ (f_Rs_at (σ.1 (f_Ts_at v4) 0)) (f_Rs_at (σ.1 (f_Ts_at v3) 0)) (σ.1 (f_Ts_at v4) 1)))))]) (rest := []) (st' := [.int (f_JM_abs ((((f_Tt_startOf σ v3) * (f_Ro_span σ (f_Rs_at (σ.1 (f_Ts_at v3) 0)) (f_Rs_at (σ.1 (f_Ts_at v4) 0)))) + ((f_Ro_minutes σ (f_Rs_at (σ.1 (f_Ts_at v3) 0)) (σ.1 (f_Ts_at v3) 1)) * (f_Ro_apart σ (f_Rs_at (σ.1 (f_Ts_at v3) 0)) (f_Rs_at (σ.1 (f_Ts_at v4) 0)) (σ.1 (f_Ts_at v3) 1)))) - (((f_Tt_startOf σ v4) * (f_Ro_span σ (f_Rs_at (σ.1 (f_Ts_at v3) 0)) (f_Rs_at (σ.1 (f_Ts_at v4) 0)))) + ((f_Ro_minutes σ (f_Rs_at (σ.1 (f_Ts_at v4) 0)) (σ.1 (f_Ts_at v4) 1)) * (f_Ro_apart σ (f_Rs_at (σ.1 (f_Ts_at v4) 0)) (f_Rs_at (σ.1 (f_Ts_at v3) 0)) (σ.1 (f_Ts_at v4) 1))))))]) d_Tt_collide_201 rfl ms_Tt_101 (ct_JM_abs V _ σ ((((f_Tt_startOf σ v3) * (f_Ro_span σ (f_Rs_at (σ.1 (f_Ts_at v3) 0)) (f_Rs_at (σ.1 (f_Ts_at v4) 0)))) + ((f_Ro_minutes σ (f_Rs_at (σ.1 (f_Ts_at v3) 0)) (σ.1 (f_Ts_at v3) 1)) * (f_Ro_apart σ (f_Rs_at (σ.1 (f_Ts_at v3) 0)) (f_Rs_at (σ.1 (f_Ts_at v4) 0)) (σ.1 (f_Ts_at v3) 1)))) - (((f_Tt_startOf σ v4) * (f_Ro_span σ (f_Rs_at (σ.1 (f_Ts_at v3) 0)) (f_Rs_at (σ.1 (f_Ts_at v4) 0)))) + ((f_Ro_minutes σ (f_Rs_at (σ.1 (f_Ts_at v4) 0)) (σ.1 (f_Ts_at v4) 1)) * (f_Ro_apart σ (f_Rs_at (σ.1 (f_Ts_at v4) 0)) (f_Rs_at (σ.1 (f_Ts_at v3) 0)) (σ.1 (f_Ts_at v4) 1)))))) rfl rfl ⟨Nat.le_of_ble_eq_true rfl, Nat.le_of_ble_eq_true rfl⟩ ⟨rfl, rfl⟩ (Nat.le_of_ble_eq_true rfl) rfl ?_
          refine J_iload (pc' := 206) d_Tt_collide_204 rfl 16 rfl ?_
          refine J_iload (pc' := 208) d_Tt_collide_206 rfl 2 rfl ?_
          refine J_imul (pc' := 209) d_Tt_collide_208 rfl ?_
          refine J_icmp_ge (pc' := 212) (tgt := 216) d_Tt_collide_209 rfl (by decide) (fun hc5 => ?_) (fun hc5 => ?_)
          · have hf := brT hc5 hf
            refine J_iconst (pc' := 217) (v := 0) d_Tt_collide_216 rfl ic_0 ?_
            subst hf
            exact J_zret (by decide) d_Tt_collide_217
          · have hf := brF hc5 hf
            refine J_iconst (pc' := 213) (v := 1) d_Tt_collide_212 rfl ic_1 ?_
            refine J_goto (tgt := 217) d_Tt_collide_213 (by decide) ?_
            subst hf
            exact J_zret (by decide) d_Tt_collide_217
        · have hf := brT hc4 hf
          refine J_iconst (pc' := 140) (v := 0) d_Tt_collide_139 rfl ic_0 ?_
          subst hf
          exact J_zret (by decide) d_Tt_collide_140
      · have hf := brT hc3 hf
        refine J_iload (pc' := 105) d_Tt_collide_103 rfl 7 rfl ?_
        refine J_iload (pc' := 107) d_Tt_collide_105 rfl 6 rfl ?_
        refine J_iload (pc' := 109) d_Tt_collide_107 rfl 0 rfl ?_
        refine J_iadd (pc' := 110) d_Tt_collide_109 rfl ?_
        refine J_icmp_ge (pc' := 113) (tgt := 127) d_Tt_collide_110 rfl (by decide) (fun hc6 => ?_) (fun hc6 => ?_)
        · have hf := brT hc6 hf
          refine J_iconst (pc' := 128) (v := 0) d_Tt_collide_127 rfl ic_0 ?_
          subst hf
          exact J_zret (by decide) d_Tt_collide_128
        · have hf := brF hc6 hf
          refine J_iload (pc' := 115) d_Tt_collide_113 rfl 7 rfl ?_
          refine J_iload (pc' := 117) d_Tt_collide_115 rfl 1 rfl ?_
          refine J_iadd (pc' := 118) d_Tt_collide_117 rfl ?_
          refine J_iload (pc' := 120) d_Tt_collide_118 rfl 6 rfl ?_
          refine J_icmp_le (pc' := 123) (tgt := 127) d_Tt_collide_120 rfl (by decide) (fun hc7 => ?_) (fun hc7 => ?_)
          · have hf := brT hc7 hf
            refine J_iconst (pc' := 128) (v := 0) d_Tt_collide_127 rfl ic_0 ?_
            subst hf
            exact J_zret (by decide) d_Tt_collide_128
          · have hf := brF hc7 hf
            refine J_iconst (pc' := 124) (v := 1) d_Tt_collide_123 rfl ic_1 ?_
            refine J_goto (tgt := 128) d_Tt_collide_124 (by decide) ?_
            subst hf
            exact J_zret (by decide) d_Tt_collide_128
    · have hf := brT hc2 hf
      refine J_iconst (pc' := 28) (v := 0) d_Tt_collide_27 rfl ic_0 ?_
      subst hf
      exact J_zret (by decide) d_Tt_collide_28
theorem ct_Tt_collide (V : Vx) (l : Launch) (σ : Sg) (v3 : Int32) (v4 : Int32) (v5 : Int32) : Ct V l y_Tt_collide c_Tt_collide 17 (some .boolean) (k2_rm 3 63) [rf V 41, rf V 5, rf V 18, .int v3, .int v4, .int v5] σ (some (.int (f_Tt_collide σ v3 v4 v5))) σ := Ct.ofJ (by decide +kernel) (Nat.le_of_ble_eq_true rfl) fun X _ => j_Tt_collide _ v3 v4 v5 rfl
def f_GR_guilty (σ : Sg) (v1 : Int32) (v2 : Int32) : Int32 :=
  if (σ.1 (f_Ts_at v1) 0) = (σ.1 (f_Ts_at v2) 0) then f_JM_max v1 v2 else if (σ.1 (f_Rs_at (σ.1 (f_Ts_at v1) 0)) 6) ≤ (σ.1 (f_Rs_at (σ.1 (f_Ts_at v2) 0)) 6) then v2 else v1
set_option maxHeartbeats 4000000 in
theorem j_GR_guilty {V : Vx} {X : Xx} {r : Int32} (σ : Sg) (v1 : Int32) (v2 : Int32) (hf : f_GR_guilty σ v1 v2 = r) : J V X (k2_rm 2 43) c_GR_guilty R_GR 5 (some .int) (Qr V X (some (.int r)) σ) σ 0 [(0, rf V 0), (1, .int v1), (2, .int v2)] [] := by
  unfold f_GR_guilty at hf
  refine J_aload_n (pc' := 1) d_GR_guilty_0 rfl 0 rfl ?_
  refine J_getR (pc' := 4) d_GR_guilty_1 rfl sh_0 fl_GR_35 rfl ?_
  refine J_iload_n (pc' := 5) d_GR_guilty_4 rfl 1 rfl ?_
  refine J_V (pc' := 8) (as := [.int v1]) (rest := []) (st' := [rf V (f_Ts_at v1)]) d_GR_guilty_5 rfl sh_18 rfl mv_GR_209 (ct_Ts_at V _ σ v1) rfl rfl ⟨Nat.le_of_ble_eq_true rfl, Nat.le_of_ble_eq_true rfl⟩ ⟨rfl, rfl⟩ (Nat.le_of_ble_eq_true rfl) rfl ?_
  refine J_getI (pc' := 11) d_GR_guilty_8 rfl (sh_Tr (is_Ts_at v1)) fl_GR_212 rfl ?_
  refine J_istore_n (pc' := 12) (lv' := [(3, .int (σ.1 (f_Ts_at v1) 0)), (0, rf V 0), (1, .int v1), (2, .int v2)]) d_GR_guilty_11 rfl rfl (by decide) rfl ?_
  refine J_aload_n (pc' := 13) d_GR_guilty_12 rfl 1 rfl ?_
  refine J_getR (pc' := 16) d_GR_guilty_13 rfl sh_0 fl_GR_35 rfl ?_
  refine J_iload_n (pc' := 17) d_GR_guilty_16 rfl 3 rfl ?_
  refine J_V (pc' := 20) (as := [.int v2]) (rest := []) (st' := [rf V (f_Ts_at v2)]) d_GR_guilty_17 rfl sh_18 rfl mv_GR_209 (ct_Ts_at V _ σ v2) rfl rfl ⟨Nat.le_of_ble_eq_true rfl, Nat.le_of_ble_eq_true rfl⟩ ⟨rfl, rfl⟩ (Nat.le_of_ble_eq_true rfl) rfl ?_
  refine J_getI (pc' := 23) d_GR_guilty_20 rfl (sh_Tr (is_Ts_at v2)) fl_GR_212 rfl ?_
  refine J_istore (pc' := 25) (lv' := [(4, .int (σ.1 (f_Ts_at v2) 0)), (3, .int (σ.1 (f_Ts_at v1) 0)), (0, rf V 0), (1, .int v1), (2, .int v2)]) d_GR_guilty_23 rfl (by decide) rfl ?_
  refine J_iload_n (pc' := 26) d_GR_guilty_25 rfl 1 rfl ?_
  refine J_iload (pc' := 28) d_GR_guilty_26 rfl 0 rfl ?_
  refine J_icmp_ne (pc' := 31) (tgt := 37) d_GR_guilty_28 rfl (by decide) (fun hc1 => ?_) (fun hc1 => ?_)
  · have hf := brF hc1 hf
    refine J_aload_n (pc' := 38) d_GR_guilty_37 rfl 2 rfl ?_
    refine J_getR (pc' := 41) d_GR_guilty_38 rfl sh_0 fl_GR_24 rfl ?_
    refine J_iload_n (pc' := 42) d_GR_guilty_41 rfl 1 rfl ?_
    refine J_V (pc' := 45) (as := [.int (σ.1 (f_Ts_at v1) 0)]) (rest := []) (st' := [rf V (f_Rs_at (σ.1 (f_Ts_at v1) 0))]) d_GR_guilty_42 rfl sh_5 rfl mv_GR_104 (ct_Rs_at V _ σ (σ.1 (f_Ts_at v1) 0)) rfl rfl ⟨Nat.le_of_ble_eq_true rfl, Nat.le_of_ble_eq_true rfl⟩ ⟨rfl, rfl⟩ (Nat.le_of_ble_eq_true rfl) rfl ?_
    refine J_getI (pc' := 48) d_GR_guilty_45 rfl (sh_Ro (is_Rs_at (σ.1 (f_Ts_at v1) 0))) fl_GR_358 rfl ?_
    refine J_aload_n (pc' := 49) d_GR_guilty_48 rfl 2 rfl ?_
    refine J_getR (pc' := 52) d_GR_guilty_49 rfl sh_0 fl_GR_24 rfl ?_
    refine J_iload (pc' := 54) d_GR_guilty_52 rfl 0 rfl ?_
    refine J_V (pc' := 57) (as := [.int (σ.1 (f_Ts_at v2) 0)]) (rest := [.int (σ.1 (f_Rs_at (σ.1 (f_Ts_at v1) 0)) 6)]) (st' := [rf V (f_Rs_at (σ.1 (f_Ts_at v2) 0)), .int (σ.1 (f_Rs_at (σ.1 (f_Ts_at v1) 0)) 6)]) d_GR_guilty_54 rfl sh_5 rfl mv_GR_104 (ct_Rs_at V _ σ (σ.1 (f_Ts_at v2) 0)) rfl rfl ⟨Nat.le_of_ble_eq_true rfl, Nat.le_of_ble_eq_true rfl⟩ ⟨rfl, rfl⟩ (Nat.le_of_ble_eq_true rfl) rfl ?_
    refine J_getI (pc' := 60) d_GR_guilty_57 rfl (sh_Ro (is_Rs_at (σ.1 (f_Ts_at v2) 0))) fl_GR_358 rfl ?_
    refine J_icmp_le (pc' := 63) (tgt := 67) d_GR_guilty_60 rfl (by decide) (fun hc2 => ?_) (fun hc2 => ?_)
    · have hf := brT hc2 hf
      refine J_iload_n (pc' := 68) d_GR_guilty_67 rfl 4 rfl ?_
      subst hf
      exact J_iret d_GR_guilty_68
    · have hf := brF hc2 hf
      refine J_iload_n (pc' := 64) d_GR_guilty_63 rfl 3 rfl ?_
      refine J_goto (tgt := 68) d_GR_guilty_64 (by decide) ?_
      subst hf
      exact J_iret d_GR_guilty_68
  · have hf := brT hc1 hf
    refine J_iload_n (pc' := 32) d_GR_guilty_31 rfl 3 rfl ?_
    refine J_iload_n (pc' := 33) d_GR_guilty_32 rfl 4 rfl ?_
    refine J_S (pc' := 36) (as := [.int v1, .int v2]) (rest := []) (st' := [.int (f_JM_max v1 v2)]) d_GR_guilty_33 rfl ms_GR_204 (ct_JM_max V _ σ v1 v2) rfl rfl ⟨Nat.le_of_ble_eq_true rfl, Nat.le_of_ble_eq_true rfl⟩ ⟨rfl, rfl⟩ (Nat.le_of_ble_eq_true rfl) rfl ?_
    subst hf
    exact J_iret d_GR_guilty_36
theorem ct_GR_guilty (V : Vx) (l : Launch) (σ : Sg) (v1 : Int32) (v2 : Int32) : Ct V l y_GR_guilty c_GR_guilty 5 (some .int) (k2_rm 2 43) [rf V 0, .int v1, .int v2] σ (some (.int (f_GR_guilty σ v1 v2))) σ := Ct.ofJ (by decide +kernel) (Nat.le_of_ble_eq_true rfl) fun X _ => j_GR_guilty _ v1 v2 rfl
