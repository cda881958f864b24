theorem d_Md_copy_0 : decode c_Md_copy 0 = .ok (.iload_n 1, 1) := by decide +kernel
theorem d_Md_copy_1 : decode c_Md_copy 1 = .ok (.invokestatic 87, 3) := by decide +kernel
theorem d_Md_copy_4 : decode c_Md_copy 4 = .ok (.ifCond .eq 10, 3) := by decide +kernel
theorem d_Md_copy_7 : decode c_Md_copy 7 = .ok (.iload_n 3, 1) := by decide +kernel
theorem d_Md_copy_8 : decode c_Md_copy 8 = .ok (.invokestatic 87, 3) := by decide +kernel
theorem d_Md_copy_11 : decode c_Md_copy 11 = .ok (.ifCond .ne 6, 3) := by decide +kernel
theorem d_Md_copy_14 : decode c_Md_copy 14 = .ok (.bipush (-2), 2) := by decide +kernel
theorem d_Md_copy_16 : decode c_Md_copy 16 = .ok (.ireturn, 1) := by decide +kernel
theorem d_Md_copy_17 : decode c_Md_copy 17 = .ok (.aload_n 0, 1) := by decide +kernel
theorem d_Md_copy_18 : decode c_Md_copy 18 = .ok (.getfield 7, 3) := by decide +kernel
theorem d_Md_copy_21 : decode c_Md_copy 21 = .ok (.iload_n 1, 1) := by decide +kernel
theorem d_Md_copy_22 : decode c_Md_copy 22 = .ok (.iaload, 1) := by decide +kernel
theorem d_Md_copy_23 : decode c_Md_copy 23 = .ok (.ifCond .lt 12, 3) := by decide +kernel
theorem d_Md_copy_26 : decode c_Md_copy 26 = .ok (.aload_n 0, 1) := by decide +kernel
theorem d_Md_copy_27 : decode c_Md_copy 27 = .ok (.getfield 7, 3) := by decide +kernel
theorem d_Md_copy_30 : decode c_Md_copy 30 = .ok (.iload_n 3, 1) := by decide +kernel
theorem d_Md_copy_31 : decode c_Md_copy 31 = .ok (.iaload, 1) := by decide +kernel
theorem d_Md_copy_32 : decode c_Md_copy 32 = .ok (.ifCond .ge 9, 3) := by decide +kernel
theorem d_Md_copy_35 : decode c_Md_copy 35 = .ok (.aload_n 0, 1) := by decide +kernel
theorem d_Md_copy_36 : decode c_Md_copy 36 = .ok (.iconst 1, 1) := by decide +kernel
theorem d_Md_copy_37 : decode c_Md_copy 37 = .ok (.invokevirtual 93, 3) := by decide +kernel
theorem d_Md_copy_40 : decode c_Md_copy 40 = .ok (.ireturn, 1) := by decide +kernel
theorem d_Md_copy_41 : decode c_Md_copy 41 = .ok (.aload_n 0, 1) := by decide +kernel
theorem d_Md_copy_42 : decode c_Md_copy 42 = .ok (.getfield 7, 3) := by decide +kernel
theorem d_Md_copy_45 : decode c_Md_copy 45 = .ok (.iload_n 1, 1) := by decide +kernel
theorem d_Md_copy_46 : decode c_Md_copy 46 = .ok (.iaload, 1) := by decide +kernel
theorem d_Md_copy_47 : decode c_Md_copy 47 = .ok (.aload_n 0, 1) := by decide +kernel
theorem d_Md_copy_48 : decode c_Md_copy 48 = .ok (.getfield 7, 3) := by decide +kernel
theorem d_Md_copy_51 : decode c_Md_copy 51 = .ok (.iload_n 3, 1) := by decide +kernel
theorem d_Md_copy_52 : decode c_Md_copy 52 = .ok (.iaload, 1) := by decide +kernel
theorem d_Md_copy_53 : decode c_Md_copy 53 = .ok (.if_icmp .eq 9, 3) := by decide +kernel
theorem d_Md_copy_56 : decode c_Md_copy 56 = .ok (.aload_n 0, 1) := by decide +kernel
theorem d_Md_copy_57 : decode c_Md_copy 57 = .ok (.iconst 4, 1) := by decide +kernel
theorem d_Md_copy_58 : decode c_Md_copy 58 = .ok (.invokevirtual 93, 3) := by decide +kernel
theorem d_Md_copy_61 : decode c_Md_copy 61 = .ok (.ireturn, 1) := by decide +kernel
theorem d_Md_copy_62 : decode c_Md_copy 62 = .ok (.iload_n 2, 1) := by decide +kernel
theorem d_Md_copy_63 : decode c_Md_copy 63 = .ok (.ifCond .lt 48, 3) := by decide +kernel
theorem d_Md_copy_66 : decode c_Md_copy 66 = .ok (.iload 4, 2) := by decide +kernel
theorem d_Md_copy_68 : decode c_Md_copy 68 = .ok (.ifCond .lt 43, 3) := by decide +kernel
theorem d_Md_copy_71 : decode c_Md_copy 71 = .ok (.iload 5, 2) := by decide +kernel
theorem d_Md_copy_73 : decode c_Md_copy 73 = .ok (.ifCond .lt 38, 3) := by decide +kernel
theorem d_Md_copy_76 : decode c_Md_copy 76 = .ok (.iload_n 2, 1) := by decide +kernel
theorem d_Md_copy_77 : decode c_Md_copy 77 = .ok (.i2l, 1) := by decide +kernel
theorem d_Md_copy_78 : decode c_Md_copy 78 = .ok (.iload 5, 2) := by decide +kernel
theorem d_Md_copy_80 : decode c_Md_copy 80 = .ok (.i2l, 1) := by decide +kernel
theorem d_Md_copy_81 : decode c_Md_copy 81 = .ok (.ladd, 1) := by decide +kernel
theorem d_Md_copy_82 : decode c_Md_copy 82 = .ok (.aload_n 0, 1) := by decide +kernel
theorem d_Md_copy_83 : decode c_Md_copy 83 = .ok (.getfield 13, 3) := by decide +kernel
theorem d_Md_copy_86 : decode c_Md_copy 86 = .ok (.iload_n 1, 1) := by decide +kernel
theorem d_Md_copy_87 : decode c_Md_copy 87 = .ok (.iaload, 1) := by decide +kernel
theorem d_Md_copy_88 : decode c_Md_copy 88 = .ok (.i2l, 1) := by decide +kernel
theorem d_Md_copy_89 : decode c_Md_copy 89 = .ok (.lcmp, 1) := by decide +kernel
theorem d_Md_copy_90 : decode c_Md_copy 90 = .ok (.ifCond .gt 21, 3) := by decide +kernel
theorem d_Md_copy_93 : decode c_Md_copy 93 = .ok (.iload 4, 2) := by decide +kernel
theorem d_Md_copy_95 : decode c_Md_copy 95 = .ok (.i2l, 1) := by decide +kernel
theorem d_Md_copy_96 : decode c_Md_copy 96 = .ok (.iload 5, 2) := by decide +kernel
theorem d_Md_copy_98 : decode c_Md_copy 98 = .ok (.i2l, 1) := by decide +kernel
theorem d_Md_copy_99 : decode c_Md_copy 99 = .ok (.ladd, 1) := by decide +kernel
theorem d_Md_copy_100 : decode c_Md_copy 100 = .ok (.aload_n 0, 1) := by decide +kernel
theorem d_Md_copy_101 : decode c_Md_copy 101 = .ok (.getfield 13, 3) := by decide +kernel
theorem d_Md_copy_104 : decode c_Md_copy 104 = .ok (.iload_n 3, 1) := by decide +kernel
theorem d_Md_copy_105 : decode c_Md_copy 105 = .ok (.iaload, 1) := by decide +kernel
theorem d_Md_copy_106 : decode c_Md_copy 106 = .ok (.i2l, 1) := by decide +kernel
theorem d_Md_copy_107 : decode c_Md_copy 107 = .ok (.lcmp, 1) := by decide +kernel
theorem d_Md_copy_108 : decode c_Md_copy 108 = .ok (.ifCond .le 9, 3) := by decide +kernel
theorem d_Md_copy_111 : decode c_Md_copy 111 = .ok (.aload_n 0, 1) := by decide +kernel
theorem d_Md_copy_112 : decode c_Md_copy 112 = .ok (.iconst 2, 1) := by decide +kernel
theorem d_Md_copy_113 : decode c_Md_copy 113 = .ok (.invokevirtual 93, 3) := by decide +kernel
theorem d_Md_copy_116 : decode c_Md_copy 116 = .ok (.ireturn, 1) := by decide +kernel
theorem d_Md_copy_117 : decode c_Md_copy 117 = .ok (.iconst 0, 1) := by decide +kernel
theorem d_Md_copy_118 : decode c_Md_copy 118 = .ok (.istore 6, 2) := by decide +kernel
theorem d_Md_copy_120 : decode c_Md_copy 120 = .ok (.iload 6, 2) := by decide +kernel
theorem d_Md_copy_122 : decode c_Md_copy 122 = .ok (.iload 5, 2) := by decide +kernel
theorem d_Md_copy_124 : decode c_Md_copy 124 = .ok (.if_icmp .ge 30, 3) := by decide +kernel
theorem d_Md_copy_127 : decode c_Md_copy 127 = .ok (.aload_n 0, 1) := by decide +kernel
theorem d_Md_copy_128 : decode c_Md_copy 128 = .ok (.getfield 19, 3) := by decide +kernel
theorem d_Md_copy_131 : decode c_Md_copy 131 = .ok (.iload 6, 2) := by decide +kernel
theorem d_Md_copy_133 : decode c_Md_copy 133 = .ok (.aload_n 0, 1) := by decide +kernel
theorem d_Md_copy_134 : decode c_Md_copy 134 = .ok (.getfield 16, 3) := by decide +kernel
theorem d_Md_copy_137 : decode c_Md_copy 137 = .ok (.bipush 60, 2) := by decide +kernel
theorem d_Md_copy_139 : decode c_Md_copy 139 = .ok (.iload_n 1, 1) := by decide +kernel
theorem d_Md_copy_140 : decode c_Md_copy 140 = .ok (.imul, 1) := by decide +kernel
theorem d_Md_copy_141 : decode c_Md_copy 141 = .ok (.iload_n 2, 1) := by decide +kernel
theorem d_Md_copy_142 : decode c_Md_copy 142 = .ok (.iadd, 1) := by decide +kernel
theorem d_Md_copy_143 : decode c_Md_copy 143 = .ok (.iload 6, 2) := by decide +kernel
theorem d_Md_copy_145 : decode c_Md_copy 145 = .ok (.iadd, 1) := by decide +kernel
theorem d_Md_copy_146 : decode c_Md_copy 146 = .ok (.iaload, 1) := by decide +kernel
theorem d_Md_copy_147 : decode c_Md_copy 147 = .ok (.iastore, 1) := by decide +kernel
theorem d_Md_copy_148 : decode c_Md_copy 148 = .ok (.iinc 6 1, 3) := by decide +kernel
theorem d_Md_copy_151 : decode c_Md_copy 151 = .ok (.goto (-31), 3) := by decide +kernel
theorem d_Md_copy_154 : decode c_Md_copy 154 = .ok (.iconst 0, 1) := by decide +kernel
theorem d_Md_copy_155 : decode c_Md_copy 155 = .ok (.istore 6, 2) := by decide +kernel
theorem d_Md_copy_157 : decode c_Md_copy 157 = .ok (.iload 6, 2) := by decide +kernel
theorem d_Md_copy_159 : decode c_Md_copy 159 = .ok (.iload 5, 2) := by decide +kernel
theorem d_Md_copy_161 : decode c_Md_copy 161 = .ok (.if_icmp .ge 31, 3) := by decide +kernel
theorem d_Md_copy_164 : decode c_Md_copy 164 = .ok (.aload_n 0, 1) := by decide +kernel
theorem d_Md_copy_165 : decode c_Md_copy 165 = .ok (.getfield 16, 3) := by decide +kernel
theorem d_Md_copy_168 : decode c_Md_copy 168 = .ok (.bipush 60, 2) := by decide +kernel
theorem d_Md_copy_170 : decode c_Md_copy 170 = .ok (.iload_n 3, 1) := by decide +kernel
theorem d_Md_copy_171 : decode c_Md_copy 171 = .ok (.imul, 1) := by decide +kernel
theorem d_Md_copy_172 : decode c_Md_copy 172 = .ok (.iload 4, 2) := by decide +kernel
theorem d_Md_copy_174 : decode c_Md_copy 174 = .ok (.iadd, 1) := by decide +kernel
theorem d_Md_copy_175 : decode c_Md_copy 175 = .ok (.iload 6, 2) := by decide +kernel
theorem d_Md_copy_177 : decode c_Md_copy 177 = .ok (.iadd, 1) := by decide +kernel
theorem d_Md_copy_178 : decode c_Md_copy 178 = .ok (.aload_n 0, 1) := by decide +kernel
theorem d_Md_copy_179 : decode c_Md_copy 179 = .ok (.getfield 19, 3) := by decide +kernel
theorem d_Md_copy_182 : decode c_Md_copy 182 = .ok (.iload 6, 2) := by decide +kernel
theorem d_Md_copy_184 : decode c_Md_copy 184 = .ok (.iaload, 1) := by decide +kernel
theorem d_Md_copy_185 : decode c_Md_copy 185 = .ok (.iastore, 1) := by decide +kernel
theorem d_Md_copy_186 : decode c_Md_copy 186 = .ok (.iinc 6 1, 3) := by decide +kernel
theorem d_Md_copy_189 : decode c_Md_copy 189 = .ok (.goto (-32), 3) := by decide +kernel
theorem d_Md_copy_192 : decode c_Md_copy 192 = .ok (.iconst 1, 1) := by decide +kernel
theorem d_Md_copy_193 : decode c_Md_copy 193 = .ok (.ireturn, 1) := by decide +kernel
theorem d_Md_isTwo_0 : decode c_Md_isTwo 0 = .ok (.iload_n 0, 1) := by decide +kernel
theorem d_Md_isTwo_1 : decode c_Md_isTwo 1 = .ok (.i2l, 1) := by decide +kernel
theorem d_Md_isTwo_2 : decode c_Md_isTwo 2 = .ok (.lconst 0, 1) := by decide +kernel
theorem d_Md_isTwo_3 : decode c_Md_isTwo 3 = .ok (.lconst 1, 1) := by decide +kernel
theorem d_Md_isTwo_4 : decode c_Md_isTwo 4 = .ok (.invokestatic 73, 3) := by decide +kernel
theorem d_Md_isTwo_7 : decode c_Md_isTwo 7 = .ok (.ireturn, 1) := by decide +kernel
theorem d_Md_type_0 : decode c_Md_type 0 = .ok (.iload_n 1, 1) := by decide +kernel
theorem d_Md_type_1 : decode c_Md_type 1 = .ok (.invokestatic 106, 3) := by decide +kernel
theorem d_Md_type_4 : decode c_Md_type 4 = .ok (.ifCond .eq 15, 3) := by decide +kernel
theorem d_Md_type_7 : decode c_Md_type 7 = .ok (.iload_n 2, 1) := by decide +kernel
theorem d_Md_type_8 : decode c_Md_type 8 = .ok (.i2l, 1) := by decide +kernel
theorem d_Md_type_9 : decode c_Md_type 9 = .ok (.lconst 0, 1) := by decide +kernel
theorem d_Md_type_10 : decode c_Md_type 10 = .ok (.ldc2_w 109, 3) := by decide +kernel
theorem d_Md_type_13 : decode c_Md_type 13 = .ok (.invokestatic 73, 3) := by decide +kernel
theorem d_Md_type_16 : decode c_Md_type 16 = .ok (.ifCond .ne 6, 3) := by decide +kernel
theorem d_Md_type_19 : decode c_Md_type 19 = .ok (.bipush (-2), 2) := by decide +kernel
theorem d_Md_type_21 : decode c_Md_type 21 = .ok (.ireturn, 1) := by decide +kernel
theorem d_Md_type_22 : decode c_Md_type 22 = .ok (.aload_n 0, 1) := by decide +kernel
theorem d_Md_type_23 : decode c_Md_type 23 = .ok (.getfield 25, 3) := by decide +kernel
theorem d_Md_type_26 : decode c_Md_type 26 = .ok (.iload_n 1, 1) := by decide +kernel
theorem d_Md_type_27 : decode c_Md_type 27 = .ok (.iaload, 1) := by decide +kernel
theorem d_Md_type_28 : decode c_Md_type 28 = .ok (.iload_n 1, 1) := by decide +kernel
theorem d_Md_type_29 : decode c_Md_type 29 = .ok (.ifCond .ne 8, 3) := by decide +kernel
theorem d_Md_type_32 : decode c_Md_type 32 = .ok (.bipush 60, 2) := by decide +kernel
theorem d_Md_type_34 : decode c_Md_type 34 = .ok (.goto 5, 3) := by decide +kernel
theorem d_Md_type_37 : decode c_Md_type 37 = .ok (.bipush 10, 2) := by decide +kernel
theorem d_Md_type_39 : decode c_Md_type 39 = .ok (.if_icmp .ne 6, 3) := by decide +kernel
theorem d_Md_type_42 : decode c_Md_type 42 = .ok (.bipush (-4), 2) := by decide +kernel
theorem d_Md_type_44 : decode c_Md_type 44 = .ok (.ireturn, 1) := by decide +kernel
theorem d_Md_type_45 : decode c_Md_type 45 = .ok (.aload_n 0, 1) := by decide +kernel
theorem d_Md_type_46 : decode c_Md_type 46 = .ok (.getfield 22, 3) := by decide +kernel
theorem d_Md_type_49 : decode c_Md_type 49 = .ok (.bipush 60, 2) := by decide +kernel
theorem d_Md_type_51 : decode c_Md_type 51 = .ok (.iload_n 1, 1) := by decide +kernel
theorem d_Md_type_52 : decode c_Md_type 52 = .ok (.imul, 1) := by decide +kernel
theorem d_Md_type_53 : decode c_Md_type 53 = .ok (.aload_n 0, 1) := by decide +kernel
theorem d_Md_type_54 : decode c_Md_type 54 = .ok (.getfield 25, 3) := by decide +kernel
theorem d_Md_type_57 : decode c_Md_type 57 = .ok (.iload_n 1, 1) := by decide +kernel
theorem d_Md_type_58 : decode c_Md_type 58 = .ok (.iaload, 1) := by decide +kernel
theorem d_Md_type_59 : decode c_Md_type 59 = .ok (.iadd, 1) := by decide +kernel
theorem d_Md_type_60 : decode c_Md_type 60 = .ok (.iload_n 2, 1) := by decide +kernel
theorem d_Md_type_61 : decode c_Md_type 61 = .ok (.iastore, 1) := by decide +kernel
theorem d_Md_type_62 : decode c_Md_type 62 = .ok (.aload_n 0, 1) := by decide +kernel
theorem d_Md_type_63 : decode c_Md_type 63 = .ok (.getfield 25, 3) := by decide +kernel
theorem d_Md_type_66 : decode c_Md_type 66 = .ok (.iload_n 1, 1) := by decide +kernel
theorem d_Md_type_67 : decode c_Md_type 67 = .ok (.dup2, 1) := by decide +kernel
theorem d_Md_type_68 : decode c_Md_type 68 = .ok (.iaload, 1) := by decide +kernel
theorem d_Md_type_69 : decode c_Md_type 69 = .ok (.iconst 1, 1) := by decide +kernel
theorem d_Md_type_70 : decode c_Md_type 70 = .ok (.iadd, 1) := by decide +kernel
theorem d_Md_type_71 : decode c_Md_type 71 = .ok (.iastore, 1) := by decide +kernel
theorem d_Md_type_72 : decode c_Md_type 72 = .ok (.aload_n 0, 1) := by decide +kernel
theorem d_Md_type_73 : decode c_Md_type 73 = .ok (.getfield 25, 3) := by decide +kernel
theorem d_Md_type_76 : decode c_Md_type 76 = .ok (.iload_n 1, 1) := by decide +kernel
theorem d_Md_type_77 : decode c_Md_type 77 = .ok (.iaload, 1) := by decide +kernel
theorem d_Md_type_78 : decode c_Md_type 78 = .ok (.ireturn, 1) := by decide +kernel
theorem d_Md_wipe_0 : decode c_Md_wipe 0 = .ok (.iload_n 1, 1) := by decide +kernel
theorem d_Md_wipe_1 : decode c_Md_wipe 1 = .ok (.invokestatic 106, 3) := by decide +kernel
theorem d_Md_wipe_4 : decode c_Md_wipe 4 = .ok (.ifCond .ne 6, 3) := by decide +kernel
theorem d_Md_wipe_7 : decode c_Md_wipe 7 = .ok (.bipush (-2), 2) := by decide +kernel
theorem d_Md_wipe_9 : decode c_Md_wipe 9 = .ok (.ireturn, 1) := by decide +kernel
theorem d_Md_wipe_10 : decode c_Md_wipe 10 = .ok (.aload_n 0, 1) := by decide +kernel
theorem d_Md_wipe_11 : decode c_Md_wipe 11 = .ok (.getfield 25, 3) := by decide +kernel
theorem d_Md_wipe_14 : decode c_Md_wipe 14 = .ok (.iload_n 1, 1) := by decide +kernel
theorem d_Md_wipe_15 : decode c_Md_wipe 15 = .ok (.iaload, 1) := by decide +kernel
theorem d_Md_wipe_16 : decode c_Md_wipe 16 = .ok (.istore_n 2, 1) := by decide +kernel
theorem d_Md_wipe_17 : decode c_Md_wipe 17 = .ok (.aload_n 0, 1) := by decide +kernel
theorem d_Md_wipe_18 : decode c_Md_wipe 18 = .ok (.getfield 25, 3) := by decide +kernel
theorem d_Md_wipe_21 : decode c_Md_wipe 21 = .ok (.iload_n 1, 1) := by decide +kernel
theorem d_Md_wipe_22 : decode c_Md_wipe 22 = .ok (.iconst 0, 1) := by decide +kernel
theorem d_Md_wipe_23 : decode c_Md_wipe 23 = .ok (.iastore, 1) := by decide +kernel
theorem d_Md_wipe_24 : decode c_Md_wipe 24 = .ok (.iload_n 2, 1) := by decide +kernel
theorem d_Md_wipe_25 : decode c_Md_wipe 25 = .ok (.ireturn, 1) := by decide +kernel
theorem d_Md_here_0 : decode c_Md_here 0 = .ok (.aload_n 0, 1) := by decide +kernel
theorem d_Md_here_1 : decode c_Md_here 1 = .ok (.getfield 111, 3) := by decide +kernel
theorem d_Md_here_4 : decode c_Md_here 4 = .ok (.aload_n 0, 1) := by decide +kernel
theorem d_Md_here_5 : decode c_Md_here 5 = .ok (.getfield 25, 3) := by decide +kernel
theorem d_Md_here_8 : decode c_Md_here 8 = .ok (.iconst 0, 1) := by decide +kernel
theorem d_Md_here_9 : decode c_Md_here 9 = .ok (.iaload, 1) := by decide +kernel
theorem d_Md_here_10 : decode c_Md_here 10 = .ok (.if_icmp .ge 15, 3) := by decide +kernel
theorem d_Md_here_13 : decode c_Md_here 13 = .ok (.aload_n 0, 1) := by decide +kernel
theorem d_Md_here_14 : decode c_Md_here 14 = .ok (.getfield 22, 3) := by decide +kernel
theorem d_Md_here_17 : decode c_Md_here 17 = .ok (.aload_n 0, 1) := by decide +kernel
theorem d_Md_here_18 : decode c_Md_here 18 = .ok (.getfield 111, 3) := by decide +kernel
theorem d_Md_here_21 : decode c_Md_here 21 = .ok (.iaload, 1) := by decide +kernel
theorem d_Md_here_22 : decode c_Md_here 22 = .ok (.goto 4, 3) := by decide +kernel
theorem d_Md_here_25 : decode c_Md_here 25 = .ok (.iconst (-1), 1) := by decide +kernel
theorem d_Md_here_26 : decode c_Md_here 26 = .ok (.ireturn, 1) := by decide +kernel
theorem d_Md_kindOf_0 : decode c_Md_kindOf 0 = .ok (.iload_n 0, 1) := by decide +kernel
theorem d_Md_kindOf_1 : decode c_Md_kindOf 1 = .ok (.bipush 98, 2) := by decide +kernel
theorem d_Md_kindOf_3 : decode c_Md_kindOf 3 = .ok (.if_icmp .ne 7, 3) := by decide +kernel
theorem d_Md_kindOf_6 : decode c_Md_kindOf 6 = .ok (.iconst 0, 1) := by decide +kernel
theorem d_Md_kindOf_7 : decode c_Md_kindOf 7 = .ok (.goto 24, 3) := by decide +kernel
theorem d_Md_kindOf_10 : decode c_Md_kindOf 10 = .ok (.iload_n 0, 1) := by decide +kernel
theorem d_Md_kindOf_11 : decode c_Md_kindOf 11 = .ok (.bipush 104, 2) := by decide +kernel
theorem d_Md_kindOf_13 : decode c_Md_kindOf 13 = .ok (.if_icmp .ne 7, 3) := by decide +kernel
theorem d_Md_kindOf_16 : decode c_Md_kindOf 16 = .ok (.iconst 1, 1) := by decide +kernel
theorem d_Md_kindOf_17 : decode c_Md_kindOf 17 = .ok (.goto 14, 3) := by decide +kernel
theorem d_Md_kindOf_20 : decode c_Md_kindOf 20 = .ok (.iload_n 0, 1) := by decide +kernel
theorem d_Md_kindOf_21 : decode c_Md_kindOf 21 = .ok (.bipush 99, 2) := by decide +kernel
theorem d_Md_kindOf_23 : decode c_Md_kindOf 23 = .ok (.if_icmp .ne 7, 3) := by decide +kernel
theorem d_Md_kindOf_26 : decode c_Md_kindOf 26 = .ok (.iconst 2, 1) := by decide +kernel
theorem d_Md_kindOf_27 : decode c_Md_kindOf 27 = .ok (.goto 4, 3) := by decide +kernel
theorem d_Md_kindOf_30 : decode c_Md_kindOf 30 = .ok (.iconst (-1), 1) := by decide +kernel
theorem d_Md_kindOf_31 : decode c_Md_kindOf 31 = .ok (.ireturn, 1) := by decide +kernel
theorem d_Md_readsRope_0 : decode c_Md_readsRope 0 = .ok (.aload_n 0, 1) := by decide +kernel
theorem d_Md_readsRope_1 : decode c_Md_readsRope 1 = .ok (.getfield 114, 3) := by decide +kernel
theorem d_Md_readsRope_4 : decode c_Md_readsRope 4 = .ok (.bipush 8, 2) := by decide +kernel
theorem d_Md_readsRope_6 : decode c_Md_readsRope 6 = .ok (.if_icmp .ne 5, 3) := by decide +kernel
theorem d_Md_readsRope_9 : decode c_Md_readsRope 9 = .ok (.iconst 0, 1) := by decide +kernel
theorem d_Md_readsRope_10 : decode c_Md_readsRope 10 = .ok (.ireturn, 1) := by decide +kernel
theorem d_Md_readsRope_11 : decode c_Md_readsRope 11 = .ok (.iconst 0, 1) := by decide +kernel
theorem d_Md_readsRope_12 : decode c_Md_readsRope 12 = .ok (.istore_n 1, 1) := by decide +kernel
theorem d_Md_readsRope_13 : decode c_Md_readsRope 13 = .ok (.iload_n 1, 1) := by decide +kernel
theorem d_Md_readsRope_14 : decode c_Md_readsRope 14 = .ok (.bipush 6, 2) := by decide +kernel
theorem d_Md_readsRope_16 : decode c_Md_readsRope 16 = .ok (.if_icmp .ge 93, 3) := by decide +kernel
theorem d_Md_readsRope_19 : decode c_Md_readsRope 19 = .ok (.iload_n 1, 1) := by decide +kernel
theorem d_Md_readsRope_20 : decode c_Md_readsRope 20 = .ok (.iconst 2, 1) := by decide +kernel
theorem d_Md_readsRope_21 : decode c_Md_readsRope 21 = .ok (.if_icmp .ne 13, 3) := by decide +kernel
theorem d_Md_readsRope_24 : decode c_Md_readsRope 24 = .ok (.aload_n 0, 1) := by decide +kernel
theorem d_Md_readsRope_25 : decode c_Md_readsRope 25 = .ok (.invokevirtual 117, 3) := by decide +kernel
theorem d_Md_readsRope_28 : decode c_Md_readsRope 28 = .ok (.invokestatic 121, 3) := by decide +kernel
theorem d_Md_readsRope_31 : decode c_Md_readsRope 31 = .ok (.goto 10, 3) := by decide +kernel
theorem d_Md_readsRope_34 : decode c_Md_readsRope 34 = .ok (.aload_n 0, 1) := by decide +kernel
theorem d_Md_readsRope_35 : decode c_Md_readsRope 35 = .ok (.invokevirtual 117, 3) := by decide +kernel
theorem d_Md_readsRope_38 : decode c_Md_readsRope 38 = .ok (.bipush 48, 2) := by decide +kernel
theorem d_Md_readsRope_40 : decode c_Md_readsRope 40 = .ok (.isub, 1) := by decide +kernel
theorem d_Md_readsRope_41 : decode c_Md_readsRope 41 = .ok (.istore_n 2, 1) := by decide +kernel
theorem d_Md_readsRope_42 : decode c_Md_readsRope 42 = .ok (.iload_n 2, 1) := by decide +kernel
theorem d_Md_readsRope_43 : decode c_Md_readsRope 43 = .ok (.i2l, 1) := by decide +kernel
theorem d_Md_readsRope_44 : decode c_Md_readsRope 44 = .ok (.lconst 0, 1) := by decide +kernel
theorem d_Md_readsRope_45 : decode c_Md_readsRope 45 = .ok (.iload_n 1, 1) := by decide +kernel
theorem d_Md_readsRope_46 : decode c_Md_readsRope 46 = .ok (.iconst 2, 1) := by decide +kernel
theorem d_Md_readsRope_47 : decode c_Md_readsRope 47 = .ok (.if_icmp .ne 9, 3) := by decide +kernel
theorem d_Md_readsRope_50 : decode c_Md_readsRope 50 = .ok (.ldc2_w 91, 3) := by decide +kernel
theorem d_Md_readsRope_53 : decode c_Md_readsRope 53 = .ok (.goto 17, 3) := by decide +kernel
theorem d_Md_readsRope_56 : decode c_Md_readsRope 56 = .ok (.iload_n 1, 1) := by decide +kernel
theorem d_Md_readsRope_57 : decode c_Md_readsRope 57 = .ok (.iconst 5, 1) := by decide +kernel
theorem d_Md_readsRope_58 : decode c_Md_readsRope 58 = .ok (.if_icmp .ne 9, 3) := by decide +kernel
theorem d_Md_readsRope_61 : decode c_Md_readsRope 61 = .ok (.ldc2_w 79, 3) := by decide +kernel
theorem d_Md_readsRope_64 : decode c_Md_readsRope 64 = .ok (.goto 6, 3) := by decide +kernel
theorem d_Md_readsRope_67 : decode c_Md_readsRope 67 = .ok (.ldc2_w 77, 3) := by decide +kernel
theorem d_Md_readsRope_70 : decode c_Md_readsRope 70 = .ok (.invokestatic 73, 3) := by decide +kernel
theorem d_Md_readsRope_73 : decode c_Md_readsRope 73 = .ok (.ifCond .ne 5, 3) := by decide +kernel
theorem d_Md_readsRope_76 : decode c_Md_readsRope 76 = .ok (.iconst 0, 1) := by decide +kernel
theorem d_Md_readsRope_77 : decode c_Md_readsRope 77 = .ok (.ireturn, 1) := by decide +kernel
theorem d_Md_readsRope_78 : decode c_Md_readsRope 78 = .ok (.aload_n 0, 1) := by decide +kernel
theorem d_Md_readsRope_79 : decode c_Md_readsRope 79 = .ok (.getfield 28, 3) := by decide +kernel
theorem d_Md_readsRope_82 : decode c_Md_readsRope 82 = .ok (.bipush 6, 2) := by decide +kernel
theorem d_Md_readsRope_84 : decode c_Md_readsRope 84 = .ok (.aload_n 0, 1) := by decide +kernel
theorem d_Md_readsRope_85 : decode c_Md_readsRope 85 = .ok (.getfield 114, 3) := by decide +kernel
theorem d_Md_readsRope_88 : decode c_Md_readsRope 88 = .ok (.imul, 1) := by decide +kernel
theorem d_Md_readsRope_89 : decode c_Md_readsRope 89 = .ok (.iload_n 1, 1) := by decide +kernel
theorem d_Md_readsRope_90 : decode c_Md_readsRope 90 = .ok (.iadd, 1) := by decide +kernel
theorem d_Md_readsRope_91 : decode c_Md_readsRope 91 = .ok (.iload_n 2, 1) := by decide +kernel
theorem d_Md_readsRope_92 : decode c_Md_readsRope 92 = .ok (.iastore, 1) := by decide +kernel
theorem d_Md_readsRope_93 : decode c_Md_readsRope 93 = .ok (.aload_n 0, 1) := by decide +kernel
theorem d_Md_readsRope_94 : decode c_Md_readsRope 94 = .ok (.dup, 1) := by decide +kernel
theorem d_Md_readsRope_95 : decode c_Md_readsRope 95 = .ok (.getfield 111, 3) := by decide +kernel
theorem d_Md_readsRope_98 : decode c_Md_readsRope 98 = .ok (.iconst 1, 1) := by decide +kernel
theorem d_Md_readsRope_99 : decode c_Md_readsRope 99 = .ok (.iadd, 1) := by decide +kernel
theorem d_Md_readsRope_100 : decode c_Md_readsRope 100 = .ok (.putfield 111, 3) := by decide +kernel
theorem d_Md_readsRope_103 : decode c_Md_readsRope 103 = .ok (.iinc 1 1, 3) := by decide +kernel
theorem d_Md_readsRope_106 : decode c_Md_readsRope 106 = .ok (.goto (-93), 3) := by decide +kernel
theorem d_Md_readsRope_109 : decode c_Md_readsRope 109 = .ok (.aload_n 0, 1) := by decide +kernel
theorem d_Md_readsRope_110 : decode c_Md_readsRope 110 = .ok (.dup, 1) := by decide +kernel
theorem d_Md_readsRope_111 : decode c_Md_readsRope 111 = .ok (.getfield 114, 3) := by decide +kernel
theorem d_Md_readsRope_114 : decode c_Md_readsRope 114 = .ok (.iconst 1, 1) := by decide +kernel
theorem d_Md_readsRope_115 : decode c_Md_readsRope 115 = .ok (.iadd, 1) := by decide +kernel
theorem d_Md_readsRope_116 : decode c_Md_readsRope 116 = .ok (.putfield 114, 3) := by decide +kernel
theorem d_Md_readsRope_119 : decode c_Md_readsRope 119 = .ok (.iconst 1, 1) := by decide +kernel
theorem d_Md_readsRope_120 : decode c_Md_readsRope 120 = .ok (.ireturn, 1) := by decide +kernel
def f_Md_copy_35 (σ : Sg)  : Option (Int32 × Sg) :=
  bd (f_Md_met σ 1) fun r7 σ6 =>
    some (r7, σ6)
set_option maxHeartbeats 4000000 in
theorem j_Md_copy_35 {V : Vx} {X : Xx} {r : Int32} {σ' : Sg}  (σ : Sg) (hf : f_Md_copy_35 σ = some (r, σ')) : J V X (k2_rm 2 45) c_Md_copy R_Md 7 (some .int) (Qr V X (some (.int r)) σ') σ 35 [(0, rf V 66)] [] := by
  unfold f_Md_copy_35 at hf
  refine J_aload_n (pc' := 36) d_Md_copy_35 rfl 0 rfl ?_
  refine J_iconst (pc' := 37) (v := 1) d_Md_copy_36 rfl ic_1 ?_
  obtain ⟨r7, σ6, hq5, hf⟩ := bdE hf
  refine J_V (pc' := 40) (as := [.int 1]) (rest := []) (st' := [.int r7]) d_Md_copy_37 rfl sh_66 rfl mv_Md_93 (ct_Md_met V _ σ 1 hq5) rfl rfl ⟨Nat.le_of_ble_eq_true rfl, Nat.le_of_ble_eq_true rfl⟩ ⟨rfl, rfl⟩ (Nat.le_of_ble_eq_true rfl) rfl ?_
  obtain ⟨rfl, rfl⟩ := resE hf
  exact J_iret d_Md_copy_40
def f_Md_copy_111 (σ : Sg)  : Option (Int32 × Sg) :=
  bd (f_Md_met σ 2) fun r16 σ15 =>
    some (r16, σ15)
set_option maxHeartbeats 4000000 in
theorem j_Md_copy_111 {V : Vx} {X : Xx} {r : Int32} {σ' : Sg}  (σ : Sg) (hf : f_Md_copy_111 σ = some (r, σ')) : J V X (k2_rm 2 45) c_Md_copy R_Md 7 (some .int) (Qr V X (some (.int r)) σ') σ 111 [(0, rf V 66)] [] := by
  unfold f_Md_copy_111 at hf
  refine J_aload_n (pc' := 112) d_Md_copy_111 rfl 0 rfl ?_
  refine J_iconst (pc' := 113) (v := 2) d_Md_copy_112 rfl ic_2 ?_
  obtain ⟨r16, σ15, hq14, hf⟩ := bdE hf
  refine J_V (pc' := 116) (as := [.int 2]) (rest := []) (st' := [.int r16]) d_Md_copy_113 rfl sh_66 rfl mv_Md_93 (ct_Md_met V _ σ 2 hq14) rfl rfl ⟨Nat.le_of_ble_eq_true rfl, Nat.le_of_ble_eq_true rfl⟩ ⟨rfl, rfl⟩ (Nat.le_of_ble_eq_true rfl) rfl ?_
  obtain ⟨rfl, rfl⟩ := resE hf
  exact J_iret d_Md_copy_116
def f_Md_copy_157 : Nat → Sg → Int32 → Int32 → Int32 → Int32 → Option (Int32 × Sg)
  | 0, _, _, _, _, _ => none
  | n + 1, σ, v3, v4, v5, v6 =>
    if v5 ≤ v6 then
      some (1, σ)
    else
      gd (vin v6 60) (
        gd (vin (((60 * v3) + v4) + v6) 240) (
          f_Md_copy_157 n (pI σ 69 (((60 * v3) + v4) + v6).toNatClampNeg (σ.1 70 v6.toNatClampNeg)) v3 v4 v5 (v6 + 1)))
theorem f_Md_copy_157_s (n : Nat) (σ : Sg) (v3 : Int32) (v4 : Int32) (v5 : Int32) (v6 : Int32) : f_Md_copy_157 (n + 1) σ v3 v4 v5 v6 =
    if v5 ≤ v6 then
      some (1, σ)
    else
      gd (vin v6 60) (
        gd (vin (((60 * v3) + v4) + v6) 240) (
          f_Md_copy_157 n (pI σ 69 (((60 * v3) + v4) + v6).toNatClampNeg (σ.1 70 v6.toNatClampNeg)) v3 v4 v5 (v6 + 1))) := rfl
set_option maxHeartbeats 4000000 in
theorem j_Md_copy_157 {V : Vx} {X : Xx} {r : Int32} {σ' : Sg}  : ∀ (n : Nat) (σ : Sg) (v3 : Int32) (v4 : Int32) (v5 : Int32) (v6 : Int32), f_Md_copy_157 n σ v3 v4 v5 v6 = some (r, σ') → J V X (k2_rm 2 45) c_Md_copy R_Md 7 (some .int) (Qr V X (some (.int r)) σ') σ 157 [(0, rf V 66), (3, .int v3), (4, .int v4), (5, .int v5), (6, .int v6)] [] := by
  intro n
  induction n with
  | zero => intro σ v3 v4 v5 v6 hf; exact nn hf
  | succ n ih =>
    intro σ v3 v4 v5 v6 hf
    rw [f_Md_copy_157_s] at hf
    refine J_iload (pc' := 159) d_Md_copy_157 rfl 4 rfl ?_
    refine J_iload (pc' := 161) d_Md_copy_159 rfl 3 rfl ?_
    refine J_icmp_ge (pc' := 164) (tgt := 192) d_Md_copy_161 rfl (by decide) (fun hc24 => ?_) (fun hc24 => ?_)
    · have hf := brT hc24 hf
      refine J_iconst (pc' := 193) (v := 1) d_Md_copy_192 rfl ic_1 ?_
      obtain ⟨rfl, rfl⟩ := resE hf
      exact J_iret d_Md_copy_193
    · have hf := brF hc24 hf
      refine J_aload_n (pc' := 165) d_Md_copy_164 rfl 0 rfl ?_
      refine J_getR (pc' := 168) d_Md_copy_165 rfl sh_66 fl_Md_16 rfl ?_
      refine J_bipush (pc' := 170) (v := 60) d_Md_copy_168 rfl bc_60 ?_
      refine J_iload_n (pc' := 171) d_Md_copy_170 rfl 1 rfl ?_
      refine J_imul (pc' := 172) d_Md_copy_171 rfl ?_
      refine J_iload (pc' := 174) d_Md_copy_172 rfl 2 rfl ?_
      refine J_iadd (pc' := 175) d_Md_copy_174 rfl ?_
      refine J_iload (pc' := 177) d_Md_copy_175 rfl 4 rfl ?_
      refine J_iadd (pc' := 178) d_Md_copy_177 rfl ?_
      refine J_aload_n (pc' := 179) d_Md_copy_178 rfl 0 rfl ?_
      refine J_getR (pc' := 182) d_Md_copy_179 rfl sh_66 fl_Md_19 rfl ?_
      refine J_iload (pc' := 184) d_Md_copy_182 rfl 4 rfl ?_
      obtain ⟨hg25, hf⟩ := gdE hf
      refine J_ial (pc' := 185) d_Md_copy_184 rfl sh_70 (vinP hg25) ?_
      obtain ⟨hg26, hf⟩ := gdE hf
      refine J_ias (pc' := 186) d_Md_copy_185 rfl sh_69 (vinP hg26) ?_
      refine J_iinc (pc' := 189) (j := 4) (v := 1) (lv' := [(6, .int (v6 + 1)), (0, rf V 66), (3, .int v3), (4, .int v4), (5, .int v5)]) d_Md_copy_186 rfl rfl ic_1 (by decide) rfl ?_
      refine J_goto (tgt := 157) d_Md_copy_189 (by decide) ?_
      refine J_pick [1, 2, 3, 4, 0] rfl ?_
      exact ih _ _ _ _ _ hf
def f_Md_copy_120 : Nat → Sg → Int32 → Int32 → Int32 → Int32 → Int32 → Int32 → Option (Int32 × Sg)
  | 0, _, _, _, _, _, _, _ => none
  | n + 1, σ, v1, v2, v3, v4, v5, v6 =>
    if v5 ≤ v6 then
      f_Md_copy_157 FU σ v3 v4 v5 0
    else
      gd (vin (((60 * v1) + v2) + v6) 240) (
        gd (vin v6 60) (
          f_Md_copy_120 n (pI σ 70 v6.toNatClampNeg (σ.1 69 (((60 * v1) + v2) + v6).toNatClampNeg)) v1 v2 v3 v4 v5 (v6 + 1)))
theorem f_Md_copy_120_s (n : Nat) (σ : Sg) (v1 : Int32) (v2 : Int32) (v3 : Int32) (v4 : Int32) (v5 : Int32) (v6 : Int32) : f_Md_copy_120 (n + 1) σ v1 v2 v3 v4 v5 v6 =
    if v5 ≤ v6 then
      f_Md_copy_157 FU σ v3 v4 v5 0
    else
      gd (vin (((60 * v1) + v2) + v6) 240) (
        gd (vin v6 60) (
          f_Md_copy_120 n (pI σ 70 v6.toNatClampNeg (σ.1 69 (((60 * v1) + v2) + v6).toNatClampNeg)) v1 v2 v3 v4 v5 (v6 + 1))) := rfl
set_option maxHeartbeats 4000000 in
theorem j_Md_copy_120 {V : Vx} {X : Xx} {r : Int32} {σ' : Sg}  : ∀ (n : Nat) (σ : Sg) (v1 : Int32) (v2 : Int32) (v3 : Int32) (v4 : Int32) (v5 : Int32) (v6 : Int32), f_Md_copy_120 n σ v1 v2 v3 v4 v5 v6 = some (r, σ') → J V X (k2_rm 2 45) c_Md_copy R_Md 7 (some .int) (Qr V X (some (.int r)) σ') σ 120 [(0, rf V 66), (1, .int v1), (2, .int v2), (3, .int v3), (4, .int v4), (5, .int v5), (6, .int v6)] [] := by
  intro n
  induction n with
  | zero => intro σ v1 v2 v3 v4 v5 v6 hf; exact nn hf
  | succ n ih =>
    intro σ v1 v2 v3 v4 v5 v6 hf
    rw [f_Md_copy_120_s] at hf
    refine J_iload (pc' := 122) d_Md_copy_120 rfl 6 rfl ?_
    refine J_iload (pc' := 124) d_Md_copy_122 rfl 5 rfl ?_
    refine J_icmp_ge (pc' := 127) (tgt := 154) d_Md_copy_124 rfl (by decide) (fun hc23 => ?_) (fun hc23 => ?_)
    · have hf := brT hc23 hf
      refine J_iconst (pc' := 155) (v := 0) d_Md_copy_154 rfl ic_0 ?_
      refine J_istore (pc' := 157) (lv' := [(6, .int 0), (0, rf V 66), (1, .int v1), (2, .int v2), (3, .int v3), (4, .int v4), (5, .int v5)]) d_Md_copy_155 rfl (by decide) rfl ?_
      refine J_pick [1, 4, 5, 6, 0] rfl ?_
      exact j_Md_copy_157 FU _ _ _ _ _ hf
    · have hf := brF hc23 hf
      refine J_aload_n (pc' := 128) d_Md_copy_127 rfl 0 rfl ?_
      refine J_getR (pc' := 131) d_Md_copy_128 rfl sh_66 fl_Md_19 rfl ?_
      refine J_iload (pc' := 133) d_Md_copy_131 rfl 6 rfl ?_
      refine J_aload_n (pc' := 134) d_Md_copy_133 rfl 0 rfl ?_
      refine J_getR (pc' := 137) d_Md_copy_134 rfl sh_66 fl_Md_16 rfl ?_
      refine J_bipush (pc' := 139) (v := 60) d_Md_copy_137 rfl bc_60 ?_
      refine J_iload_n (pc' := 140) d_Md_copy_139 rfl 1 rfl ?_
      refine J_imul (pc' := 141) d_Md_copy_140 rfl ?_
      refine J_iload_n (pc' := 142) d_Md_copy_141 rfl 2 rfl ?_
      refine J_iadd (pc' := 143) d_Md_copy_142 rfl ?_
      refine J_iload (pc' := 145) d_Md_copy_143 rfl 6 rfl ?_
      refine J_iadd (pc' := 146) d_Md_copy_145 rfl ?_
      obtain ⟨hg27, hf⟩ := gdE hf
      refine J_ial (pc' := 147) d_Md_copy_146 rfl sh_69 (vinP hg27) ?_
      obtain ⟨hg28, hf⟩ := gdE hf
      refine J_ias (pc' := 148) d_Md_copy_147 rfl sh_70 (vinP hg28) ?_
      refine J_iinc (pc' := 151) (j := 6) (v := 1) (lv' := [(6, .int (v6 + 1)), (0, rf V 66), (1, .int v1), (2, .int v2), (3, .int v3), (4, .int v4), (5, .int v5)]) d_Md_copy_148 rfl rfl ic_1 (by decide) rfl ?_
      refine J_goto (tgt := 120) d_Md_copy_151 (by decide) ?_
      refine J_pick [1, 2, 3, 4, 5, 6, 0] rfl ?_
      exact ih _ _ _ _ _ _ _ hf
def f_Md_copy (σ : Sg) (v1 : Int32) (v2 : Int32) (v3 : Int32) (v4 : Int32) (v5 : Int32) : Option (Int32 × Sg) :=
  if (f_Md_isSheet v1) = 0 then
    some ((-2), σ)
  else
    if (f_Md_isSheet v3) = 0 then
      some ((-2), σ)
    else
      gd (vin v1 4) (
        if (σ.1 67 v1.toNatClampNeg) < 0 then
          f_Md_copy_35 σ
        else
          gd (vin v3 4) (
            if 0 ≤ (σ.1 67 v3.toNatClampNeg) then
              gd (vin v1 4) (
                gd (vin v3 4) (
                  if (σ.1 67 v1.toNatClampNeg) = (σ.1 67 v3.toNatClampNeg) then
                    if v2 < 0 then
                      f_Md_copy_111 σ
                    else
                      if v4 < 0 then
                        f_Md_copy_111 σ
                      else
                        if v5 < 0 then
                          f_Md_copy_111 σ
                        else
                          gd (vin v1 4) (
                            if 0 < (lg_cmp (v2.toInt64 + v5.toInt64) ((σ.1 68 v1.toNatClampNeg).toInt64)) then
                              f_Md_copy_111 σ
                            else
                              gd (vin v3 4) (
                                if (lg_cmp (v4.toInt64 + v5.toInt64) ((σ.1 68 v3.toNatClampNeg).toInt64)) ≤ 0 then f_Md_copy_120 FU σ v1 v2 v3 v4 v5 0 else f_Md_copy_111 σ))
                  else
                    bd (f_Md_met σ 4) fun r31 σ30 =>
                      some (r31, σ30)))
            else
              f_Md_copy_35 σ))
set_option maxHeartbeats 4000000 in
theorem j_Md_copy {V : Vx} {X : Xx} {r : Int32} {σ' : Sg} (σ : Sg) (v1 : Int32) (v2 : Int32) (v3 : Int32) (v4 : Int32) (v5 : Int32) (hf : f_Md_copy σ v1 v2 v3 v4 v5 = some (r, σ')) : J V X (k2_rm 2 45) c_Md_copy R_Md 7 (some .int) (Qr V X (some (.int r)) σ') σ 0 [(0, rf V 66), (1, .int v1), (2, .int v2), (3, .int v3), (4, .int v4), (5, .int v5)] [] := by
  unfold f_Md_copy at hf
  refine J_iload_n (pc' := 1) d_Md_copy_0 rfl 1 rfl ?_
  refine J_S (pc' := 4) (as := [.int v1]) (rest := []) (st' := [.int (f_Md_isSheet v1)]) d_Md_copy_1 rfl ms_Md_87 (ct_Md_isSheet V _ σ v1) rfl rfl ⟨Nat.le_of_ble_eq_true rfl, Nat.le_of_ble_eq_true rfl⟩ ⟨rfl, rfl⟩ (Nat.le_of_ble_eq_true rfl) rfl ?_
  refine J_if_eq (pc' := 7) (tgt := 14) d_Md_copy_4 rfl (by decide) (fun hc1 => ?_) (fun hc1 => ?_)
  · have hf := brT hc1 hf
    refine J_bipush (pc' := 16) (v := (-2)) d_Md_copy_14 rfl bc_m2 ?_
    obtain ⟨rfl, rfl⟩ := resE hf
    exact J_iret d_Md_copy_16
  · have hf := brF hc1 hf
    refine J_iload_n (pc' := 8) d_Md_copy_7 rfl 3 rfl ?_
    refine J_S (pc' := 11) (as := [.int v3]) (rest := []) (st' := [.int (f_Md_isSheet v3)]) d_Md_copy_8 rfl ms_Md_87 (ct_Md_isSheet V _ σ v3) rfl rfl ⟨Nat.le_of_ble_eq_true rfl, Nat.le_of_ble_eq_true rfl⟩ ⟨rfl, rfl⟩ (Nat.le_of_ble_eq_true rfl) rfl ?_
    refine J_if_ne (pc' := 14) (tgt := 17) d_Md_copy_11 rfl (by decide) (fun hc2 => ?_) (fun hc2 => ?_)
    · have hf := brF hc2 hf
      refine J_aload_n (pc' := 18) d_Md_copy_17 rfl 0 rfl ?_
      refine J_getR (pc' := 21) d_Md_copy_18 rfl sh_66 fl_Md_7 rfl ?_
      refine J_iload_n (pc' := 22) d_Md_copy_21 rfl 1 rfl ?_
      obtain ⟨hg3, hf⟩ := gdE hf
      refine J_ial (pc' := 23) d_Md_copy_22 rfl sh_67 (vinP hg3) ?_
      refine J_if_lt (pc' := 26) (tgt := 35) d_Md_copy_23 rfl (by decide) (fun hc4 => ?_) (fun hc4 => ?_)
      · have hf := brT hc4 hf
        refine J_pick [0] rfl ?_
        exact j_Md_copy_35 _ hf
      · have hf := brF hc4 hf
        refine J_aload_n (pc' := 27) d_Md_copy_26 rfl 0 rfl ?_
        refine J_getR (pc' := 30) d_Md_copy_27 rfl sh_66 fl_Md_7 rfl ?_
        refine J_iload_n (pc' := 31) d_Md_copy_30 rfl 3 rfl ?_
        obtain ⟨hg8, hf⟩ := gdE hf
        refine J_ial (pc' := 32) d_Md_copy_31 rfl sh_67 (vinP hg8) ?_
        refine J_if_ge (pc' := 35) (tgt := 41) d_Md_copy_32 rfl (by decide) (fun hc9 => ?_) (fun hc9 => ?_)
        · have hf := brT hc9 hf
          refine J_aload_n (pc' := 42) d_Md_copy_41 rfl 0 rfl ?_
          refine J_getR (pc' := 45) d_Md_copy_42 rfl sh_66 fl_Md_7 rfl ?_
          refine J_iload_n (pc' := 46) d_Md_copy_45 rfl 1 rfl ?_
          obtain ⟨hg10, hf⟩ := gdE hf
          refine J_ial (pc' := 47) d_Md_copy_46 rfl sh_67 (vinP hg10) ?_
          refine J_aload_n (pc' := 48) d_Md_copy_47 rfl 0 rfl ?_
          refine J_getR (pc' := 51) d_Md_copy_48 rfl sh_66 fl_Md_7 rfl ?_
          refine J_iload_n (pc' := 52) d_Md_copy_51 rfl 3 rfl ?_
          obtain ⟨hg11, hf⟩ := gdE hf
          refine J_ial (pc' := 53) d_Md_copy_52 rfl sh_67 (vinP hg11) ?_
          refine J_icmp_eq (pc' := 56) (tgt := 62) d_Md_copy_53 rfl (by decide) (fun hc12 => ?_) (fun hc12 => ?_)
          · have hf := brT hc12 hf
            refine J_iload_n (pc' := 63) d_Md_copy_62 rfl 2 rfl ?_
            refine J_if_lt (pc' := 66) (tgt := 111) d_Md_copy_63 rfl (by decide) (fun hc13 => ?_) (fun hc13 => ?_)
            · have hf := brT hc13 hf
              refine J_pick [0] rfl ?_
              exact j_Md_copy_111 _ hf
            · have hf := brF hc13 hf
              refine J_iload (pc' := 68) d_Md_copy_66 rfl 4 rfl ?_
              refine J_if_lt (pc' := 71) (tgt := 111) d_Md_copy_68 rfl (by decide) (fun hc17 => ?_) (fun hc17 => ?_)
              · have hf := brT hc17 hf
                refine J_pick [0] rfl ?_
                exact j_Md_copy_111 _ hf
              · have hf := brF hc17 hf
                refine J_iload (pc' := 73) d_Md_copy_71 rfl 5 rfl ?_
                refine J_if_lt (pc' := 76) (tgt := 111) d_Md_copy_73 rfl (by decide) (fun hc18 => ?_) (fun hc18 => ?_)
                · have hf := brT hc18 hf
                  refine J_pick [0] rfl ?_
                  exact j_Md_copy_111 _ hf
                · have hf := brF hc18 hf
                  refine J_iload_n (pc' := 77) d_Md_copy_76 rfl 2 rfl ?_
                  refine J_i2l (pc' := 78) d_Md_copy_77 rfl ?_
                  refine J_iload (pc' := 80) d_Md_copy_78 rfl 5 rfl ?_
                  refine J_i2l (pc' := 81) d_Md_copy_80 rfl ?_
                  refine J_ladd (pc' := 82) d_Md_copy_81 rfl ?_
                  refine J_aload_n (pc' := 83) d_Md_copy_82 rfl 0 rfl ?_
                  refine J_getR (pc' := 86) d_Md_copy_83 rfl sh_66 fl_Md_13 rfl ?_
                  refine J_iload_n (pc' := 87) d_Md_copy_86 rfl 1 rfl ?_
                  obtain ⟨hg19, hf⟩ := gdE hf
                  refine J_ial (pc' := 88) d_Md_copy_87 rfl sh_68 (vinP hg19) ?_
                  refine J_i2l (pc' := 89) d_Md_copy_88 rfl ?_
                  refine J_lcmp (pc' := 90) d_Md_copy_89 rfl ?_
                  refine J_if_gt (pc' := 93) (tgt := 111) d_Md_copy_90 rfl (by decide) (fun hc20 => ?_) (fun hc20 => ?_)
                  · have hf := brT hc20 hf
                    refine J_pick [0] rfl ?_
                    exact j_Md_copy_111 _ hf
                  · have hf := brF hc20 hf
                    refine J_iload (pc' := 95) d_Md_copy_93 rfl 4 rfl ?_
                    refine J_i2l (pc' := 96) d_Md_copy_95 rfl ?_
                    refine J_iload (pc' := 98) d_Md_copy_96 rfl 5 rfl ?_
                    refine J_i2l (pc' := 99) d_Md_copy_98 rfl ?_
                    refine J_ladd (pc' := 100) d_Md_copy_99 rfl ?_
                    refine J_aload_n (pc' := 101) d_Md_copy_100 rfl 0 rfl ?_
                    refine J_getR (pc' := 104) d_Md_copy_101 rfl sh_66 fl_Md_13 rfl ?_
                    refine J_iload_n (pc' := 105) d_Md_copy_104 rfl 3 rfl ?_
                    obtain ⟨hg21, hf⟩ := gdE hf
                    refine J_ial (pc' := 106) d_Md_copy_105 rfl sh_68 (vinP hg21) ?_
                    refine J_i2l (pc' := 107) d_Md_copy_106 rfl ?_
                    refine J_lcmp (pc' := 108) d_Md_copy_107 rfl ?_
                    refine J_if_le (pc' := 111) (tgt := 117) d_Md_copy_108 rfl (by decide) (fun hc22 => ?_) (fun hc22 => ?_)
                    · have hf := brT hc22 hf
                      refine J_iconst (pc' := 118) (v := 0) d_Md_copy_117 rfl ic_0 ?_
                      refine J_istore (pc' := 120) (lv' := [(6, .int 0), (0, rf V 66), (1, .int v1), (2, .int v2), (3, .int v3), (4, .int v4), (5, .int v5)]) d_Md_copy_118 rfl (by decide) rfl ?_
                      refine J_pick [1, 2, 3, 4, 5, 6, 0] rfl ?_
                      exact j_Md_copy_120 FU _ _ _ _ _ _ _ hf
                    · have hf := brF hc22 hf
                      refine J_pick [0] rfl ?_
                      exact j_Md_copy_111 _ hf
          · have hf := brF hc12 hf
            refine J_aload_n (pc' := 57) d_Md_copy_56 rfl 0 rfl ?_
            refine J_iconst (pc' := 58) (v := 4) d_Md_copy_57 rfl ic_4 ?_
            obtain ⟨r31, σ30, hq29, hf⟩ := bdE hf
            refine J_V (pc' := 61) (as := [.int 4]) (rest := []) (st' := [.int r31]) d_Md_copy_58 rfl sh_66 rfl mv_Md_93 (ct_Md_met V _ σ 4 hq29) rfl rfl ⟨Nat.le_of_ble_eq_true rfl, Nat.le_of_ble_eq_true rfl⟩ ⟨rfl, rfl⟩ (Nat.le_of_ble_eq_true rfl) rfl ?_
            obtain ⟨rfl, rfl⟩ := resE hf
            exact J_iret d_Md_copy_61
        · have hf := brF hc9 hf
          refine J_pick [0] rfl ?_
          exact j_Md_copy_35 _ hf
    · have hf := brT hc2 hf
      refine J_bipush (pc' := 16) (v := (-2)) d_Md_copy_14 rfl bc_m2 ?_
      obtain ⟨rfl, rfl⟩ := resE hf
      exact J_iret d_Md_copy_16
theorem ct_Md_copy (V : Vx) (l : Launch) (σ : Sg) (v1 : Int32) (v2 : Int32) (v3 : Int32) (v4 : Int32) (v5 : Int32) {r : Int32} {σ' : Sg} (hf : f_Md_copy σ v1 v2 v3 v4 v5 = some (r, σ')) : Ct V l y_Md_copy c_Md_copy 7 (some .int) (k2_rm 2 45) [rf V 66, .int v1, .int v2, .int v3, .int v4, .int v5] σ (some (.int r)) σ' := Ct.ofJ (by decide +kernel) (Nat.le_of_ble_eq_true rfl) fun X _ => j_Md_copy _ v1 v2 v3 v4 v5 hf
def f_Md_isTwo (v0 : Int32) : Int32 :=
  zb (f_Md_in v0.toInt64 0 1)
set_option maxHeartbeats 4000000 in
theorem j_Md_isTwo {V : Vx} {X : Xx} {r : Int32} (σ : Sg) (v0 : Int32) (hf : f_Md_isTwo v0 = r) : J V X (k2_rm 1 25) c_Md_isTwo R_Md 1 (some .boolean) (Qr V X (some (.int r)) σ) σ 0 [(0, .int v0)] [] := by
  unfold f_Md_isTwo at hf
  refine J_iload_n (pc' := 1) d_Md_isTwo_0 rfl 0 rfl ?_
  refine J_i2l (pc' := 2) d_Md_isTwo_1 rfl ?_
  refine J_lconst (pc' := 3) (v := 0) d_Md_isTwo_2 rfl lc_0 ?_
  refine J_lconst (pc' := 4) (v := 1) d_Md_isTwo_3 rfl lc_1 ?_
  refine J_S (pc' := 7) (as := [.long v0.toInt64, .long 0, .long 1]) (rest := []) (st' := [.int (f_Md_in v0.toInt64 0 1)]) d_Md_isTwo_4 rfl ms_Md_73 (ct_Md_in V _ σ v0.toInt64 0 1) rfl rfl ⟨Nat.le_of_ble_eq_true rfl, Nat.le_of_ble_eq_true rfl⟩ ⟨rfl, rfl⟩ (Nat.le_of_ble_eq_true rfl) rfl ?_
  subst hf
  exact J_zretG d_Md_isTwo_7
theorem ct_Md_isTwo (V : Vx) (l : Launch) (σ : Sg) (v0 : Int32) : Ct V l y_Md_isTwo c_Md_isTwo 1 (some .boolean) (k2_rm 1 25) [.int v0] σ (some (.int (f_Md_isTwo v0))) σ := Ct.ofJ (by decide +kernel) (Nat.le_of_ble_eq_true rfl) fun X _ => j_Md_isTwo _ v0 rfl
def f_Md_type_39 (σ : Sg) (v1 : Int32) (v2 : Int32) (s0 : Int32) (s1 : Int32) : Option (Int32 × Sg) :=
  if s1 = s0 then
    some ((-4), σ)
  else
    gd (vin v1 2) (
      gd (vin ((60 * v1) + (σ.1 72 v1.toNatClampNeg)) 70) (
        gd (vin v1 2) (
          gd (vin v1 2) (
            gd (vin v1 2) (
              some ((pI (pI σ 71 ((60 * v1) + (σ.1 72 v1.toNatClampNeg)).toNatClampNeg v2) 72 v1.toNatClampNeg (((pI σ 71 ((60 * v1) + (σ.1 72 v1.toNatClampNeg)).toNatClampNeg v2).1 72 v1.toNatClampNeg) + 1)).1 72 v1.toNatClampNeg, (pI (pI σ 71 ((60 * v1) + (σ.1 72 v1.toNatClampNeg)).toNatClampNeg v2) 72 v1.toNatClampNeg (((pI σ 71 ((60 * v1) + (σ.1 72 v1.toNatClampNeg)).toNatClampNeg v2).1 72 v1.toNatClampNeg) + 1))))))))
set_option maxHeartbeats 4000000 in
theorem j_Md_type_39 {V : Vx} {X : Xx} {r : Int32} {σ' : Sg}  (σ : Sg) (v1 : Int32) (v2 : Int32) (s0 : Int32) (s1 : Int32) (hf : f_Md_type_39 σ v1 v2 s0 s1 = some (r, σ')) : J V X (k2_rm 2 45) c_Md_type R_Md 3 (some .int) (Qr V X (some (.int r)) σ') σ 39 [(0, rf V 66), (1, .int v1), (2, .int v2)] [.int s0, .int s1] := by
  unfold f_Md_type_39 at hf
  refine J_icmp_ne (pc' := 42) (tgt := 45) d_Md_type_39 rfl (by decide) (fun hc5 => ?_) (fun hc5 => ?_)
  · have hf := brF hc5 hf
    refine J_aload_n (pc' := 46) d_Md_type_45 rfl 0 rfl ?_
    refine J_getR (pc' := 49) d_Md_type_46 rfl sh_66 fl_Md_22 rfl ?_
    refine J_bipush (pc' := 51) (v := 60) d_Md_type_49 rfl bc_60 ?_
    refine J_iload_n (pc' := 52) d_Md_type_51 rfl 1 rfl ?_
    refine J_imul (pc' := 53) d_Md_type_52 rfl ?_
    refine J_aload_n (pc' := 54) d_Md_type_53 rfl 0 rfl ?_
    refine J_getR (pc' := 57) d_Md_type_54 rfl sh_66 fl_Md_25 rfl ?_
    refine J_iload_n (pc' := 58) d_Md_type_57 rfl 1 rfl ?_
    obtain ⟨hg6, hf⟩ := gdE hf
    refine J_ial (pc' := 59) d_Md_type_58 rfl sh_72 (vinP hg6) ?_
    refine J_iadd (pc' := 60) d_Md_type_59 rfl ?_
    refine J_iload_n (pc' := 61) d_Md_type_60 rfl 2 rfl ?_
    obtain ⟨hg7, hf⟩ := gdE hf
    refine J_ias (pc' := 62) d_Md_type_61 rfl sh_71 (vinP hg7) ?_
    refine J_aload_n (pc' := 63) d_Md_type_62 rfl 0 rfl ?_
    refine J_getR (pc' := 66) d_Md_type_63 rfl sh_66 fl_Md_25 rfl ?_
    refine J_iload_n (pc' := 67) d_Md_type_66 rfl 1 rfl ?_
    refine J_dup2 (pc' := 68) d_Md_type_67 rfl rfl rfl ?_
    obtain ⟨hg8, hf⟩ := gdE hf
    refine J_ial (pc' := 69) d_Md_type_68 rfl sh_72 (vinP hg8) ?_
    refine J_iconst (pc' := 70) (v := 1) d_Md_type_69 rfl ic_1 ?_
    refine J_iadd (pc' := 71) d_Md_type_70 rfl ?_
    obtain ⟨hg9, hf⟩ := gdE hf
    refine J_ias (pc' := 72) d_Md_type_71 rfl sh_72 (vinP hg9) ?_
    refine J_aload_n (pc' := 73) d_Md_type_72 rfl 0 rfl ?_
    refine J_getR (pc' := 76) d_Md_type_73 rfl sh_66 fl_Md_25 rfl ?_
    refine J_iload_n (pc' := 77) d_Md_type_76 rfl 1 rfl ?_
    obtain ⟨hg10, hf⟩ := gdE hf
    refine J_ial (pc' := 78) d_Md_type_77 rfl sh_72 (vinP hg10) ?_
    obtain ⟨rfl, rfl⟩ := resE hf
    exact J_iret d_Md_type_78
  · have hf := brT hc5 hf
    refine J_bipush (pc' := 44) (v := (-4)) d_Md_type_42 rfl bc_m4 ?_
    obtain ⟨rfl, rfl⟩ := resE hf
    exact J_iret d_Md_type_44
def f_Md_type (σ : Sg) (v1 : Int32) (v2 : Int32) : Option (Int32 × Sg) :=
  if (f_Md_isTwo v1) = 0 then
    some ((-2), σ)
  else
    if (f_Md_in v2.toInt64 0 255) = 0 then
      some ((-2), σ)
    else
      gd (vin v1 2) (
        if v1 = 0 then f_Md_type_39 σ v1 v2 60 (σ.1 72 v1.toNatClampNeg) else f_Md_type_39 σ v1 v2 10 (σ.1 72 v1.toNatClampNeg))
set_option maxHeartbeats 4000000 in
theorem j_Md_type {V : Vx} {X : Xx} {r : Int32} {σ' : Sg} (σ : Sg) (v1 : Int32) (v2 : Int32) (hf : f_Md_type σ v1 v2 = some (r, σ')) : J V X (k2_rm 2 45) c_Md_type R_Md 3 (some .int) (Qr V X (some (.int r)) σ') σ 0 [(0, rf V 66), (1, .int v1), (2, .int v2)] [] := by
  unfold f_Md_type at hf
  refine J_iload_n (pc' := 1) d_Md_type_0 rfl 1 rfl ?_
  refine J_S (pc' := 4) (as := [.int v1]) (rest := []) (st' := [.int (f_Md_isTwo v1)]) d_Md_type_1 rfl ms_Md_106 (ct_Md_isTwo V _ σ v1) rfl rfl ⟨Nat.le_of_ble_eq_true rfl, Nat.le_of_ble_eq_true rfl⟩ ⟨rfl, rfl⟩ (Nat.le_of_ble_eq_true rfl) rfl ?_
  refine J_if_eq (pc' := 7) (tgt := 19) d_Md_type_4 rfl (by decide) (fun hc1 => ?_) (fun hc1 => ?_)
  · have hf := brT hc1 hf
    refine J_bipush (pc' := 21) (v := (-2)) d_Md_type_19 rfl bc_m2 ?_
    obtain ⟨rfl, rfl⟩ := resE hf
    exact J_iret d_Md_type_21
  · have hf := brF hc1 hf
    refine J_iload_n (pc' := 8) d_Md_type_7 rfl 2 rfl ?_
    refine J_i2l (pc' := 9) d_Md_type_8 rfl ?_
    refine J_lconst (pc' := 10) (v := 0) d_Md_type_9 rfl lc_0 ?_
    refine J_ldc2 (pc' := 13) (v := 255) d_Md_type_10 rfl cw_Md_109 ?_
    refine J_S (pc' := 16) (as := [.long v2.toInt64, .long 0, .long 255]) (rest := []) (st' := [.int (f_Md_in v2.toInt64 0 255)]) d_Md_type_13 rfl ms_Md_73 (ct_Md_in V _ σ v2.toInt64 0 255) rfl rfl ⟨Nat.le_of_ble_eq_true rfl, Nat.le_of_ble_eq_true rfl⟩ ⟨rfl, rfl⟩ (Nat.le_of_ble_eq_true rfl) rfl ?_
    refine J_if_ne (pc' := 19) (tgt := 22) d_Md_type_16 rfl (by decide) (fun hc2 => ?_) (fun hc2 => ?_)
    · have hf := brF hc2 hf
      refine J_aload_n (pc' := 23) d_Md_type_22 rfl 0 rfl ?_
      refine J_getR (pc' := 26) d_Md_type_23 rfl sh_66 fl_Md_25 rfl ?_
      refine J_iload_n (pc' := 27) d_Md_type_26 rfl 1 rfl ?_
      obtain ⟨hg3, hf⟩ := gdE hf
      refine J_ial (pc' := 28) d_Md_type_27 rfl sh_72 (vinP hg3) ?_
      refine J_iload_n (pc' := 29) d_Md_type_28 rfl 1 rfl ?_
      refine J_if_ne (pc' := 32) (tgt := 37) d_Md_type_29 rfl (by decide) (fun hc4 => ?_) (fun hc4 => ?_)
      · have hf := brF hc4 hf
        refine J_bipush (pc' := 39) (v := 10) d_Md_type_37 rfl bc_10 ?_
        exact j_Md_type_39 _ _ _ _ _ hf
      · have hf := brT hc4 hf
        refine J_bipush (pc' := 34) (v := 60) d_Md_type_32 rfl bc_60 ?_
        refine J_goto (tgt := 39) d_Md_type_34 (by decide) ?_
        exact j_Md_type_39 _ _ _ _ _ hf
    · have hf := brT hc2 hf
      refine J_bipush (pc' := 21) (v := (-2)) d_Md_type_19 rfl bc_m2 ?_
      obtain ⟨rfl, rfl⟩ := resE hf
      exact J_iret d_Md_type_21
theorem ct_Md_type (V : Vx) (l : Launch) (σ : Sg) (v1 : Int32) (v2 : Int32) {r : Int32} {σ' : Sg} (hf : f_Md_type σ v1 v2 = some (r, σ')) : Ct V l y_Md_type c_Md_type 3 (some .int) (k2_rm 2 45) [rf V 66, .int v1, .int v2] σ (some (.int r)) σ' := Ct.ofJ (by decide +kernel) (Nat.le_of_ble_eq_true rfl) fun X _ => j_Md_type _ v1 v2 hf
def f_Md_wipe (σ : Sg) (v1 : Int32) : Option (Int32 × Sg) :=
  if (f_Md_isTwo v1) = 0 then
    some ((-2), σ)
  else
    gd (vin v1 2) (
      gd (vin v1 2) (
        some (σ.1 72 v1.toNatClampNeg, (pI σ 72 v1.toNatClampNeg 0))))
set_option maxHeartbeats 4000000 in
theorem j_Md_wipe {V : Vx} {X : Xx} {r : Int32} {σ' : Sg} (σ : Sg) (v1 : Int32) (hf : f_Md_wipe σ v1 = some (r, σ')) : J V X (k2_rm 2 45) c_Md_wipe R_Md 3 (some .int) (Qr V X (some (.int r)) σ') σ 0 [(0, rf V 66), (1, .int v1)] [] := by
  unfold f_Md_wipe at hf
  refine J_iload_n (pc' := 1) d_Md_wipe_0 rfl 1 rfl ?_
  refine J_S (pc' := 4) (as := [.int v1]) (rest := []) (st' := [.int (f_Md_isTwo v1)]) d_Md_wipe_1 rfl ms_Md_106 (ct_Md_isTwo V _ σ v1) rfl rfl ⟨Nat.le_of_ble_eq_true rfl, Nat.le_of_ble_eq_true rfl⟩ ⟨rfl, rfl⟩ (Nat.le_of_ble_eq_true rfl) rfl ?_
  refine J_if_ne (pc' := 7) (tgt := 10) d_Md_wipe_4 rfl (by decide) (fun hc1 => ?_) (fun hc1 => ?_)
  · have hf := brF hc1 hf
    refine J_aload_n (pc' := 11) d_Md_wipe_10 rfl 0 rfl ?_
    refine J_getR (pc' := 14) d_Md_wipe_11 rfl sh_66 fl_Md_25 rfl ?_
    refine J_iload_n (pc' := 15) d_Md_wipe_14 rfl 1 rfl ?_
    obtain ⟨hg2, hf⟩ := gdE hf
    refine J_ial (pc' := 16) d_Md_wipe_15 rfl sh_72 (vinP hg2) ?_
    refine J_istore_n (pc' := 17) (lv' := [(2, .int (σ.1 72 v1.toNatClampNeg)), (0, rf V 66), (1, .int v1)]) d_Md_wipe_16 rfl rfl (by decide) rfl ?_
    refine J_aload_n (pc' := 18) d_Md_wipe_17 rfl 1 rfl ?_
    refine J_getR (pc' := 21) d_Md_wipe_18 rfl sh_66 fl_Md_25 rfl ?_
    refine J_iload_n (pc' := 22) d_Md_wipe_21 rfl 2 rfl ?_
    refine J_iconst (pc' := 23) (v := 0) d_Md_wipe_22 rfl ic_0 ?_
    obtain ⟨hg3, hf⟩ := gdE hf
    refine J_ias (pc' := 24) d_Md_wipe_23 rfl sh_72 (vinP hg3) ?_
    refine J_iload_n (pc' := 25) d_Md_wipe_24 rfl 0 rfl ?_
    obtain ⟨rfl, rfl⟩ := resE hf
    exact J_iret d_Md_wipe_25
  · have hf := brT hc1 hf
    refine J_bipush (pc' := 9) (v := (-2)) d_Md_wipe_7 rfl bc_m2 ?_
    obtain ⟨rfl, rfl⟩ := resE hf
    exact J_iret d_Md_wipe_9
theorem ct_Md_wipe (V : Vx) (l : Launch) (σ : Sg) (v1 : Int32) {r : Int32} {σ' : Sg} (hf : f_Md_wipe σ v1 = some (r, σ')) : Ct V l y_Md_wipe c_Md_wipe 3 (some .int) (k2_rm 2 45) [rf V 66, .int v1] σ (some (.int r)) σ' := Ct.ofJ (by decide +kernel) (Nat.le_of_ble_eq_true rfl) fun X _ => j_Md_wipe _ v1 hf
def f_Md_here (σ : Sg)  : Option Int32 :=
  if (σ.1 72 0) ≤ (σ.1 66 7) then
    some (-1)
  else
    gd (vin (σ.1 66 7) 70) (
      some (σ.1 71 (σ.1 66 7).toNatClampNeg))
set_option maxHeartbeats 4000000 in
theorem j_Md_here {V : Vx} {X : Xx} {r : Int32} (σ : Sg) (hf : f_Md_here σ = some r) : J V X (k2_rm 0 0) c_Md_here R_Md 1 (some .int) (Qr V X (some (.int r)) σ) σ 0 [(0, rf V 66)] [] := by
  unfold f_Md_here at hf
  refine J_aload_n (pc' := 1) d_Md_here_0 rfl 0 rfl ?_
  refine J_getI (pc' := 4) d_Md_here_1 rfl sh_66 fl_Md_111 rfl ?_
  refine J_aload_n (pc' := 5) d_Md_here_4 rfl 0 rfl ?_
  refine J_getR (pc' := 8) d_Md_here_5 rfl sh_66 fl_Md_25 rfl ?_
  refine J_iconst (pc' := 9) (v := 0) d_Md_here_8 rfl ic_0 ?_
  refine J_ial (pc' := 10) d_Md_here_9 rfl sh_72 (vin_c (by decide)) ?_
  refine J_icmp_ge (pc' := 13) (tgt := 25) d_Md_here_10 rfl (by decide) (fun hc1 => ?_) (fun hc1 => ?_)
  · have hf := brT hc1 hf
    refine J_iconst (pc' := 26) (v := (-1)) d_Md_here_25 rfl ic_m1 ?_
    obtain rfl := Option.some.inj hf
    exact J_iret d_Md_here_26
  · have hf := brF hc1 hf
    refine J_aload_n (pc' := 14) d_Md_here_13 rfl 0 rfl ?_
    refine J_getR (pc' := 17) d_Md_here_14 rfl sh_66 fl_Md_22 rfl ?_
    refine J_aload_n (pc' := 18) d_Md_here_17 rfl 0 rfl ?_
    refine J_getI (pc' := 21) d_Md_here_18 rfl sh_66 fl_Md_111 rfl ?_
    obtain ⟨hg2, hf⟩ := gdE hf
    refine J_ial (pc' := 22) d_Md_here_21 rfl sh_71 (vinP hg2) ?_
    refine J_goto (tgt := 26) d_Md_here_22 (by decide) ?_
    obtain rfl := Option.some.inj hf
    exact J_iret d_Md_here_26
theorem ct_Md_here (V : Vx) (l : Launch) (σ : Sg) {r : Int32} (hf : f_Md_here σ = some r) : Ct V l y_Md_here c_Md_here 1 (some .int) (k2_rm 0 0) [rf V 66] σ (some (.int r)) σ := Ct.ofJ (by decide +kernel) (Nat.le_of_ble_eq_true rfl) fun X _ => j_Md_here _  hf
def f_Md_kindOf (v0 : Int32) : Int32 :=
  if v0 = 98 then 0 else if v0 = 104 then 1 else if v0 = 99 then 2 else (-1)
set_option maxHeartbeats 4000000 in
theorem j_Md_kindOf {V : Vx} {X : Xx} {r : Int32} (σ : Sg) (v0 : Int32) (hf : f_Md_kindOf v0 = r) : J V X (k2_rm 0 0) c_Md_kindOf R_Md 1 (some .int) (Qr V X (some (.int r)) σ) σ 0 [(0, .int v0)] [] := by
  unfold f_Md_kindOf at hf
  refine J_iload_n (pc' := 1) d_Md_kindOf_0 rfl 0 rfl ?_
  refine J_bipush (pc' := 3) (v := 98) d_Md_kindOf_1 rfl bc_98 ?_
  refine J_icmp_ne (pc' := 6) (tgt := 10) d_Md_kindOf_3 rfl (by decide) (fun hc1 => ?_) (fun hc1 => ?_)
  · have hf := brF hc1 hf
    refine J_iload_n (pc' := 11) d_Md_kindOf_10 rfl 0 rfl ?_
    refine J_bipush (pc' := 13) (v := 104) d_Md_kindOf_11 rfl bc_104 ?_
    refine J_icmp_ne (pc' := 16) (tgt := 20) d_Md_kindOf_13 rfl (by decide) (fun hc2 => ?_) (fun hc2 => ?_)
    · have hf := brF hc2 hf
      refine J_iload_n (pc' := 21) d_Md_kindOf_20 rfl 0 rfl ?_
      refine J_bipush (pc' := 23) (v := 99) d_Md_kindOf_21 rfl bc_99 ?_
      refine J_icmp_ne (pc' := 26) (tgt := 30) d_Md_kindOf_23 rfl (by decide) (fun hc3 => ?_) (fun hc3 => ?_)
      · have hf := brF hc3 hf
        refine J_iconst (pc' := 31) (v := (-1)) d_Md_kindOf_30 rfl ic_m1 ?_
        subst hf
        exact J_iret d_Md_kindOf_31
      · have hf := brT hc3 hf
        refine J_iconst (pc' := 27) (v := 2) d_Md_kindOf_26 rfl ic_2 ?_
        refine J_goto (tgt := 31) d_Md_kindOf_27 (by decide) ?_
        subst hf
        exact J_iret d_Md_kindOf_31
    · have hf := brT hc2 hf
      refine J_iconst (pc' := 17) (v := 1) d_Md_kindOf_16 rfl ic_1 ?_
      refine J_goto (tgt := 31) d_Md_kindOf_17 (by decide) ?_
      subst hf
      exact J_iret d_Md_kindOf_31
  · have hf := brT hc1 hf
    refine J_iconst (pc' := 7) (v := 0) d_Md_kindOf_6 rfl ic_0 ?_
    refine J_goto (tgt := 31) d_Md_kindOf_7 (by decide) ?_
    subst hf
    exact J_iret d_Md_kindOf_31
theorem ct_Md_kindOf (V : Vx) (l : Launch) (σ : Sg) (v0 : Int32) : Ct V l y_Md_kindOf c_Md_kindOf 1 (some .int) (k2_rm 0 0) [.int v0] σ (some (.int (f_Md_kindOf v0))) σ := Ct.ofJ (by decide +kernel) (Nat.le_of_ble_eq_true rfl) fun X _ => j_Md_kindOf _ v0 rfl
def f_Md_readsRope_70 (k13 : Sg → Int32 → Option (Int32 × Sg)) (σ : Sg) (v1 : Int32) (v2 : Int32) (s0 : Int64) (s1 : Int64) (s2 : Int64) : Option (Int32 × Sg) :=
  if (f_Md_in s2 s1 s0) = 0 then
    some (0, σ)
  else
    gd (vin ((6 * (σ.1 66 8)) + v1) 54) (
      k13 (pI (pI σ 73 ((6 * (σ.1 66 8)) + v1).toNatClampNeg v2) 66 7 (((pI σ 73 ((6 * (σ.1 66 8)) + v1).toNatClampNeg v2).1 66 7) + 1)) (v1 + 1))
set_option maxHeartbeats 4000000 in
theorem j_Md_readsRope_70 {V : Vx} {X : Xx} {r : Int32} {σ' : Sg} {k13 : Sg → Int32 → Option (Int32 × Sg)} (hk13 : ∀ (σ : Sg) (v1 : Int32), k13 σ v1 = some (r, σ') → J V X (k2_rm 1 25) c_Md_readsRope R_Md 3 (some .boolean) (Qr V X (some (.int r)) σ') σ 13 [(0, rf V 66), (1, .int v1)] []) (σ : Sg) (v1 : Int32) (v2 : Int32) (s0 : Int64) (s1 : Int64) (s2 : Int64) (hf : f_Md_readsRope_70 k13 σ v1 v2 s0 s1 s2 = some (r, σ')) : J V X (k2_rm 1 25) c_Md_readsRope R_Md 3 (some .boolean) (Qr V X (some (.int r)) σ') σ 70 [(0, rf V 66), (1, .int v1), (2, .int v2)] [.long s0, .long s1, .long s2] := by
  unfold f_Md_readsRope_70 at hf
  refine J_S (pc' := 73) (as := [.long s2, .long s1, .long s0]) (rest := []) (st' := [.int (f_Md_in s2 s1 s0)]) d_Md_readsRope_70 rfl ms_Md_73 (ct_Md_in V _ σ s2 s1 s0) rfl rfl ⟨Nat.le_of_ble_eq_true rfl, Nat.le_of_ble_eq_true rfl⟩ ⟨rfl, rfl⟩ (Nat.le_of_ble_eq_true rfl) rfl ?_
  refine J_if_ne (pc' := 76) (tgt := 78) d_Md_readsRope_73 rfl (by decide) (fun hc8 => ?_) (fun hc8 => ?_)
  · have hf := brF hc8 hf
    refine J_aload_n (pc' := 79) d_Md_readsRope_78 rfl 0 rfl ?_
    refine J_getR (pc' := 82) d_Md_readsRope_79 rfl sh_66 fl_Md_28 rfl ?_
    refine J_bipush (pc' := 84) (v := 6) d_Md_readsRope_82 rfl bc_6 ?_
    refine J_aload_n (pc' := 85) d_Md_readsRope_84 rfl 0 rfl ?_
    refine J_getI (pc' := 88) d_Md_readsRope_85 rfl sh_66 fl_Md_114 rfl ?_
    refine J_imul (pc' := 89) d_Md_readsRope_88 rfl ?_
    refine J_iload_n (pc' := 90) d_Md_readsRope_89 rfl 1 rfl ?_
    refine J_iadd (pc' := 91) d_Md_readsRope_90 rfl ?_
    refine J_iload_n (pc' := 92) d_Md_readsRope_91 rfl 2 rfl ?_
    obtain ⟨hg9, hf⟩ := gdE hf
    refine J_ias (pc' := 93) d_Md_readsRope_92 rfl sh_73 (vinP hg9) ?_
    refine J_aload_n (pc' := 94) d_Md_readsRope_93 rfl 0 rfl ?_
    refine J_dup (pc' := 95) d_Md_readsRope_94 rfl rfl ?_
    refine J_getI (pc' := 98) d_Md_readsRope_95 rfl sh_66 fl_Md_111 rfl ?_
    refine J_iconst (pc' := 99) (v := 1) d_Md_readsRope_98 rfl ic_1 ?_
    refine J_iadd (pc' := 100) d_Md_readsRope_99 rfl ?_
    refine J_putI (pc' := 103) d_Md_readsRope_100 rfl sh_66 fp_Md_111 rfl ?_
    refine J_iinc (pc' := 106) (j := 1) (v := 1) (lv' := [(1, .int (v1 + 1)), (0, rf V 66), (2, .int v2)]) d_Md_readsRope_103 rfl rfl ic_1 (by decide) rfl ?_
    refine J_goto (tgt := 13) d_Md_readsRope_106 (by decide) ?_
    refine J_pick [1, 0] rfl ?_
    exact hk13 _ _ hf
  · have hf := brT hc8 hf
    refine J_iconst (pc' := 77) (v := 0) d_Md_readsRope_76 rfl ic_0 ?_
    obtain ⟨rfl, rfl⟩ := resE hf
    exact J_zret (by decide) d_Md_readsRope_77
def f_Md_readsRope_41 (k13 : Sg → Int32 → Option (Int32 × Sg)) (σ : Sg) (v1 : Int32) (s0 : Int32) : Option (Int32 × Sg) :=
  if v1 = 2 then
    f_Md_readsRope_70 k13 σ v1 s0 2 0 s0.toInt64
  else
    if v1 = 5 then f_Md_readsRope_70 k13 σ v1 s0 4 0 s0.toInt64 else f_Md_readsRope_70 k13 σ v1 s0 9 0 s0.toInt64
set_option maxHeartbeats 4000000 in
theorem j_Md_readsRope_41 {V : Vx} {X : Xx} {r : Int32} {σ' : Sg} {k13 : Sg → Int32 → Option (Int32 × Sg)} (hk13 : ∀ (σ : Sg) (v1 : Int32), k13 σ v1 = some (r, σ') → J V X (k2_rm 1 25) c_Md_readsRope R_Md 3 (some .boolean) (Qr V X (some (.int r)) σ') σ 13 [(0, rf V 66), (1, .int v1)] []) (σ : Sg) (v1 : Int32) (s0 : Int32) (hf : f_Md_readsRope_41 k13 σ v1 s0 = some (r, σ')) : J V X (k2_rm 1 25) c_Md_readsRope R_Md 3 (some .boolean) (Qr V X (some (.int r)) σ') σ 41 [(0, rf V 66), (1, .int v1)] [.int s0] := by
  unfold f_Md_readsRope_41 at hf
  refine J_istore_n (pc' := 42) (lv' := [(2, .int s0), (0, rf V 66), (1, .int v1)]) d_Md_readsRope_41 rfl rfl (by decide) rfl ?_
  refine J_iload_n (pc' := 43) d_Md_readsRope_42 rfl 0 rfl ?_
  refine J_i2l (pc' := 44) d_Md_readsRope_43 rfl ?_
  refine J_lconst (pc' := 45) (v := 0) d_Md_readsRope_44 rfl lc_0 ?_
  refine J_iload_n (pc' := 46) d_Md_readsRope_45 rfl 2 rfl ?_
  refine J_iconst (pc' := 47) (v := 2) d_Md_readsRope_46 rfl ic_2 ?_
  refine J_icmp_ne (pc' := 50) (tgt := 56) d_Md_readsRope_47 rfl (by decide) (fun hc6 => ?_) (fun hc6 => ?_)
  · have hf := brF hc6 hf
    refine J_iload_n (pc' := 57) d_Md_readsRope_56 rfl 2 rfl ?_
    refine J_iconst (pc' := 58) (v := 5) d_Md_readsRope_57 rfl ic_5 ?_
    refine J_icmp_ne (pc' := 61) (tgt := 67) d_Md_readsRope_58 rfl (by decide) (fun hc7 => ?_) (fun hc7 => ?_)
    · have hf := brF hc7 hf
      refine J_ldc2 (pc' := 70) (v := 9) d_Md_readsRope_67 rfl cw_Md_77 ?_
      refine J_pick [1, 2, 0] rfl ?_
      exact j_Md_readsRope_70 hk13 _ _ _ _ _ _ hf
    · have hf := brT hc7 hf
      refine J_ldc2 (pc' := 64) (v := 4) d_Md_readsRope_61 rfl cw_Md_79 ?_
      refine J_goto (tgt := 70) d_Md_readsRope_64 (by decide) ?_
      refine J_pick [1, 2, 0] rfl ?_
      exact j_Md_readsRope_70 hk13 _ _ _ _ _ _ hf
  · have hf := brT hc6 hf
    refine J_ldc2 (pc' := 53) (v := 2) d_Md_readsRope_50 rfl cw_Md_91 ?_
    refine J_goto (tgt := 70) d_Md_readsRope_53 (by decide) ?_
    refine J_pick [1, 2, 0] rfl ?_
    exact j_Md_readsRope_70 hk13 _ _ _ _ _ _ hf
def f_Md_readsRope_13 : Nat → Sg → Int32 → Option (Int32 × Sg)
  | 0, _, _ => none
  | n + 1, σ, v1 =>
    if 6 ≤ v1 then
      some (1, (pI σ 66 8 ((σ.1 66 8) + 1)))
    else
      if v1 = 2 then
        (f_Md_here σ).bind fun r11 =>
          f_Md_readsRope_41 (f_Md_readsRope_13 n) σ v1 (f_Md_kindOf r11)
      else
        (f_Md_here σ).bind fun r5 =>
          f_Md_readsRope_41 (f_Md_readsRope_13 n) σ v1 (r5 - 48)
theorem f_Md_readsRope_13_s (n : Nat) (σ : Sg) (v1 : Int32) : f_Md_readsRope_13 (n + 1) σ v1 =
    if 6 ≤ v1 then
      some (1, (pI σ 66 8 ((σ.1 66 8) + 1)))
    else
      if v1 = 2 then
        (f_Md_here σ).bind fun r11 =>
          f_Md_readsRope_41 (f_Md_readsRope_13 n) σ v1 (f_Md_kindOf r11)
      else
        (f_Md_here σ).bind fun r5 =>
          f_Md_readsRope_41 (f_Md_readsRope_13 n) σ v1 (r5 - 48) := rfl
set_option maxHeartbeats 4000000 in
theorem j_Md_readsRope_13 {V : Vx} {X : Xx} {r : Int32} {σ' : Sg}  : ∀ (n : Nat) (σ : Sg) (v1 : Int32), f_Md_readsRope_13 n σ v1 = some (r, σ') → J V X (k2_rm 1 25) c_Md_readsRope R_Md 3 (some .boolean) (Qr V X (some (.int r)) σ') σ 13 [(0, rf V 66), (1, .int v1)] [] := by
  intro n
  induction n with
  | zero => intro σ v1 hf; exact nn hf
  | succ n ih =>
    intro σ v1 hf
    rw [f_Md_readsRope_13_s] at hf
    refine J_iload_n (pc' := 14) d_Md_readsRope_13 rfl 1 rfl ?_
    refine J_bipush (pc' := 16) (v := 6) d_Md_readsRope_14 rfl bc_6 ?_
    refine J_icmp_ge (pc' := 19) (tgt := 109) d_Md_readsRope_16 rfl (by decide) (fun hc2 => ?_) (fun hc2 => ?_)
    · have hf := brT hc2 hf
      refine J_aload_n (pc' := 110) d_Md_readsRope_109 rfl 0 rfl ?_
      refine J_dup (pc' := 111) d_Md_readsRope_110 rfl rfl ?_
      refine J_getI (pc' := 114) d_Md_readsRope_111 rfl sh_66 fl_Md_114 rfl ?_
      refine J_iconst (pc' := 115) (v := 1) d_Md_readsRope_114 rfl ic_1 ?_
      refine J_iadd (pc' := 116) d_Md_readsRope_115 rfl ?_
      refine J_putI (pc' := 119) d_Md_readsRope_116 rfl sh_66 fp_Md_114 rfl ?_
      refine J_iconst (pc' := 120) (v := 1) d_Md_readsRope_119 rfl ic_1 ?_
      obtain ⟨rfl, rfl⟩ := resE hf
      exact J_zret (by decide) d_Md_readsRope_120
    · have hf := brF hc2 hf
      refine J_iload_n (pc' := 20) d_Md_readsRope_19 rfl 1 rfl ?_
      refine J_iconst (pc' := 21) (v := 2) d_Md_readsRope_20 rfl ic_2 ?_
      refine J_icmp_ne (pc' := 24) (tgt := 34) d_Md_readsRope_21 rfl (by decide) (fun hc3 => ?_) (fun hc3 => ?_)
      · have hf := brF hc3 hf
        refine J_aload_n (pc' := 35) d_Md_readsRope_34 rfl 0 rfl ?_
        obtain ⟨r5, hq4, hf⟩ := bpE hf
        refine J_V (pc' := 38) (as := []) (rest := []) (st' := [.int r5]) d_Md_readsRope_35 rfl sh_66 rfl mv_Md_117 (ct_Md_here V _ σ hq4) rfl rfl ⟨Nat.le_of_ble_eq_true rfl, Nat.le_of_ble_eq_true rfl⟩ ⟨rfl, rfl⟩ (Nat.le_of_ble_eq_true rfl) rfl ?_
        refine J_bipush (pc' := 40) (v := 48) d_Md_readsRope_38 rfl bc_48 ?_
        refine J_isub (pc' := 41) d_Md_readsRope_40 rfl ?_
        exact j_Md_readsRope_41 ih _ _ _ hf
      · have hf := brT hc3 hf
        refine J_aload_n (pc' := 25) d_Md_readsRope_24 rfl 0 rfl ?_
        obtain ⟨r11, hq10, hf⟩ := bpE hf
        refine J_V (pc' := 28) (as := []) (rest := []) (st' := [.int r11]) d_Md_readsRope_25 rfl sh_66 rfl mv_Md_117 (ct_Md_here V _ σ hq10) rfl rfl ⟨Nat.le_of_ble_eq_true rfl, Nat.le_of_ble_eq_true rfl⟩ ⟨rfl, rfl⟩ (Nat.le_of_ble_eq_true rfl) rfl ?_
        refine J_S (pc' := 31) (as := [.int r11]) (rest := []) (st' := [.int (f_Md_kindOf r11)]) d_Md_readsRope_28 rfl ms_Md_121 (ct_Md_kindOf V _ σ r11) rfl rfl ⟨Nat.le_of_ble_eq_true rfl, Nat.le_of_ble_eq_true rfl⟩ ⟨rfl, rfl⟩ (Nat.le_of_ble_eq_true rfl) rfl ?_
        refine J_goto (tgt := 41) d_Md_readsRope_31 (by decide) ?_
        exact j_Md_readsRope_41 ih _ _ _ hf
def f_Md_readsRope (σ : Sg)  : Option (Int32 × Sg) :=
  if (σ.1 66 8) = 8 then some (0, σ) else f_Md_readsRope_13 FU σ 0
set_option maxHeartbeats 4000000 in
theorem j_Md_readsRope {V : Vx} {X : Xx} {r : Int32} {σ' : Sg} (σ : Sg) (hf : f_Md_readsRope σ = some (r, σ')) : J V X (k2_rm 1 25) c_Md_readsRope R_Md 3 (some .boolean) (Qr V X (some (.int r)) σ') σ 0 [(0, rf V 66)] [] := by
  unfold f_Md_readsRope at hf
  refine J_aload_n (pc' := 1) d_Md_readsRope_0 rfl 0 rfl ?_
  refine J_getI (pc' := 4) d_Md_readsRope_1 rfl sh_66 fl_Md_114 rfl ?_
  refine J_bipush (pc' := 6) (v := 8) d_Md_readsRope_4 rfl bc_8 ?_
  refine J_icmp_ne (pc' := 9) (tgt := 11) d_Md_readsRope_6 rfl (by decide) (fun hc1 => ?_) (fun hc1 => ?_)
  · have hf := brF hc1 hf
    refine J_iconst (pc' := 12) (v := 0) d_Md_readsRope_11 rfl ic_0 ?_
    refine J_istore_n (pc' := 13) (lv' := [(1, .int 0), (0, rf V 66)]) d_Md_readsRope_12 rfl rfl (by decide) rfl ?_
    refine J_pick [1, 0] rfl ?_
    exact j_Md_readsRope_13 FU _ _ hf
  · have hf := brT hc1 hf
    refine J_iconst (pc' := 10) (v := 0) d_Md_readsRope_9 rfl ic_0 ?_
    obtain ⟨rfl, rfl⟩ := resE hf
    exact J_zret (by decide) d_Md_readsRope_10
theorem ct_Md_readsRope (V : Vx) (l : Launch) (σ : Sg) {r : Int32} {σ' : Sg} (hf : f_Md_readsRope σ = some (r, σ')) : Ct V l y_Md_readsRope c_Md_readsRope 3 (some .boolean) (k2_rm 1 25) [rf V 66] σ (some (.int r)) σ' := Ct.ofJ (by decide +kernel) (Nat.le_of_ble_eq_true rfl) fun X _ => j_Md_readsRope _  hf
