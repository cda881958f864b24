theorem d_Md_neededNow_0 : decode c_Md_neededNow 0 = .ok (.aload_n 0, 1) := by decide +kernel
theorem d_Md_neededNow_1 : decode c_Md_neededNow 1 = .ok (.aload_n 0, 1) := by decide +kernel
theorem d_Md_neededNow_2 : decode c_Md_neededNow 2 = .ok (.getfield 114, 3) := by decide +kernel
theorem d_Md_neededNow_5 : decode c_Md_neededNow 5 = .ok (.iconst (-1), 1) := by decide +kernel
theorem d_Md_neededNow_6 : decode c_Md_neededNow 6 = .ok (.invokevirtual 288, 3) := by decide +kernel
theorem d_Md_neededNow_9 : decode c_Md_neededNow 9 = .ok (.iconst 0, 1) := by decide +kernel
theorem d_Md_neededNow_10 : decode c_Md_neededNow 10 = .ok (.istore_n 1, 1) := by decide +kernel
theorem d_Md_neededNow_11 : decode c_Md_neededNow 11 = .ok (.iconst 0, 1) := by decide +kernel
theorem d_Md_neededNow_12 : decode c_Md_neededNow 12 = .ok (.istore_n 2, 1) := by decide +kernel
theorem d_Md_neededNow_13 : decode c_Md_neededNow 13 = .ok (.iload_n 2, 1) := by decide +kernel
theorem d_Md_neededNow_14 : decode c_Md_neededNow 14 = .ok (.aload_n 0, 1) := by decide +kernel
theorem d_Md_neededNow_15 : decode c_Md_neededNow 15 = .ok (.getfield 114, 3) := by decide +kernel
theorem d_Md_neededNow_18 : decode c_Md_neededNow 18 = .ok (.if_icmp .ge 45, 3) := by decide +kernel
theorem d_Md_neededNow_21 : decode c_Md_neededNow 21 = .ok (.aload_n 0, 1) := by decide +kernel
theorem d_Md_neededNow_22 : decode c_Md_neededNow 22 = .ok (.getfield 270, 3) := by decide +kernel
theorem d_Md_neededNow_25 : decode c_Md_neededNow 25 = .ok (.iconst (-1), 1) := by decide +kernel
theorem d_Md_neededNow_26 : decode c_Md_neededNow 26 = .ok (.if_icmp .eq 37, 3) := by decide +kernel
theorem d_Md_neededNow_29 : decode c_Md_neededNow 29 = .ok (.aload_n 0, 1) := by decide +kernel
theorem d_Md_neededNow_30 : decode c_Md_neededNow 30 = .ok (.aload_n 0, 1) := by decide +kernel
theorem d_Md_neededNow_31 : decode c_Md_neededNow 31 = .ok (.getfield 114, 3) := by decide +kernel
theorem d_Md_neededNow_34 : decode c_Md_neededNow 34 = .ok (.iload_n 2, 1) := by decide +kernel
theorem d_Md_neededNow_35 : decode c_Md_neededNow 35 = .ok (.invokevirtual 288, 3) := by decide +kernel
theorem d_Md_neededNow_38 : decode c_Md_neededNow 38 = .ok (.aload_n 0, 1) := by decide +kernel
theorem d_Md_neededNow_39 : decode c_Md_neededNow 39 = .ok (.getfield 270, 3) := by decide +kernel
theorem d_Md_neededNow_42 : decode c_Md_neededNow 42 = .ok (.iconst (-1), 1) := by decide +kernel
theorem d_Md_neededNow_43 : decode c_Md_neededNow 43 = .ok (.if_icmp .ne 14, 3) := by decide +kernel
theorem d_Md_neededNow_46 : decode c_Md_neededNow 46 = .ok (.iload_n 1, 1) := by decide +kernel
theorem d_Md_neededNow_47 : decode c_Md_neededNow 47 = .ok (.iconst 1, 1) := by decide +kernel
theorem d_Md_neededNow_48 : decode c_Md_neededNow 48 = .ok (.iload_n 2, 1) := by decide +kernel
theorem d_Md_neededNow_49 : decode c_Md_neededNow 49 = .ok (.ishl, 1) := by decide +kernel
theorem d_Md_neededNow_50 : decode c_Md_neededNow 50 = .ok (.ior, 1) := by decide +kernel
theorem d_Md_neededNow_51 : decode c_Md_neededNow 51 = .ok (.istore_n 1, 1) := by decide +kernel
theorem d_Md_neededNow_52 : decode c_Md_neededNow 52 = .ok (.aload_n 0, 1) := by decide +kernel
theorem d_Md_neededNow_53 : decode c_Md_neededNow 53 = .ok (.iconst 0, 1) := by decide +kernel
theorem d_Md_neededNow_54 : decode c_Md_neededNow 54 = .ok (.putfield 270, 3) := by decide +kernel
theorem d_Md_neededNow_57 : decode c_Md_neededNow 57 = .ok (.iinc 2 1, 3) := by decide +kernel
theorem d_Md_neededNow_60 : decode c_Md_neededNow 60 = .ok (.goto (-47), 3) := by decide +kernel
theorem d_Md_neededNow_63 : decode c_Md_neededNow 63 = .ok (.iload_n 1, 1) := by decide +kernel
theorem d_Md_neededNow_64 : decode c_Md_neededNow 64 = .ok (.ireturn, 1) := by decide +kernel
theorem d_Md_needed_0 : decode c_Md_needed 0 = .ok (.aload_n 0, 1) := by decide +kernel
theorem d_Md_needed_1 : decode c_Md_needed 1 = .ok (.invokevirtual 137, 3) := by decide +kernel
theorem d_Md_needed_4 : decode c_Md_needed 4 = .ok (.pop, 1) := by decide +kernel
theorem d_Md_needed_5 : decode c_Md_needed 5 = .ok (.aload_n 0, 1) := by decide +kernel
theorem d_Md_needed_6 : decode c_Md_needed 6 = .ok (.invokevirtual 294, 3) := by decide +kernel
theorem d_Md_needed_9 : decode c_Md_needed 9 = .ok (.ireturn, 1) := by decide +kernel
theorem d_Md_findPegs_0 : decode c_Md_findPegs 0 = .ok (.bipush 6, 2) := by decide +kernel
theorem d_Md_findPegs_2 : decode c_Md_findPegs 2 = .ok (.aload_n 0, 1) := by decide +kernel
theorem d_Md_findPegs_3 : decode c_Md_findPegs 3 = .ok (.getfield 114, 3) := by decide +kernel
theorem d_Md_findPegs_6 : decode c_Md_findPegs 6 = .ok (.imul, 1) := by decide +kernel
theorem d_Md_findPegs_7 : decode c_Md_findPegs 7 = .ok (.istore 4, 2) := by decide +kernel
theorem d_Md_findPegs_9 : decode c_Md_findPegs 9 = .ok (.aload_n 0, 1) := by decide +kernel
theorem d_Md_findPegs_10 : decode c_Md_findPegs 10 = .ok (.getfield 28, 3) := by decide +kernel
theorem d_Md_findPegs_13 : decode c_Md_findPegs 13 = .ok (.iload 4, 2) := by decide +kernel
theorem d_Md_findPegs_15 : decode c_Md_findPegs 15 = .ok (.iconst 2, 1) := by decide +kernel
theorem d_Md_findPegs_16 : decode c_Md_findPegs 16 = .ok (.iadd, 1) := by decide +kernel
theorem d_Md_findPegs_17 : decode c_Md_findPegs 17 = .ok (.iload_n 1, 1) := by decide +kernel
theorem d_Md_findPegs_18 : decode c_Md_findPegs 18 = .ok (.iastore, 1) := by decide +kernel
theorem d_Md_findPegs_19 : decode c_Md_findPegs 19 = .ok (.aload_n 0, 1) := by decide +kernel
theorem d_Md_findPegs_20 : decode c_Md_findPegs 20 = .ok (.getfield 28, 3) := by decide +kernel
theorem d_Md_findPegs_23 : decode c_Md_findPegs 23 = .ok (.iload 4, 2) := by decide +kernel
theorem d_Md_findPegs_25 : decode c_Md_findPegs 25 = .ok (.iconst 3, 1) := by decide +kernel
theorem d_Md_findPegs_26 : decode c_Md_findPegs 26 = .ok (.iadd, 1) := by decide +kernel
theorem d_Md_findPegs_27 : decode c_Md_findPegs 27 = .ok (.iload_n 2, 1) := by decide +kernel
theorem d_Md_findPegs_28 : decode c_Md_findPegs 28 = .ok (.iastore, 1) := by decide +kernel
theorem d_Md_findPegs_29 : decode c_Md_findPegs 29 = .ok (.aload_n 0, 1) := by decide +kernel
theorem d_Md_findPegs_30 : decode c_Md_findPegs 30 = .ok (.getfield 28, 3) := by decide +kernel
theorem d_Md_findPegs_33 : decode c_Md_findPegs 33 = .ok (.iload 4, 2) := by decide +kernel
theorem d_Md_findPegs_35 : decode c_Md_findPegs 35 = .ok (.iconst 4, 1) := by decide +kernel
theorem d_Md_findPegs_36 : decode c_Md_findPegs 36 = .ok (.iadd, 1) := by decide +kernel
theorem d_Md_findPegs_37 : decode c_Md_findPegs 37 = .ok (.iload_n 3, 1) := by decide +kernel
theorem d_Md_findPegs_38 : decode c_Md_findPegs 38 = .ok (.iastore, 1) := by decide +kernel
theorem d_Md_findPegs_39 : decode c_Md_findPegs 39 = .ok (.aload_n 0, 1) := by decide +kernel
theorem d_Md_findPegs_40 : decode c_Md_findPegs 40 = .ok (.iconst (-1), 1) := by decide +kernel
theorem d_Md_findPegs_41 : decode c_Md_findPegs 41 = .ok (.putfield 297, 3) := by decide +kernel
theorem d_Md_findPegs_44 : decode c_Md_findPegs 44 = .ok (.aload_n 0, 1) := by decide +kernel
theorem d_Md_findPegs_45 : decode c_Md_findPegs 45 = .ok (.iconst (-1), 1) := by decide +kernel
theorem d_Md_findPegs_46 : decode c_Md_findPegs 46 = .ok (.putfield 300, 3) := by decide +kernel
theorem d_Md_findPegs_49 : decode c_Md_findPegs 49 = .ok (.aload_n 0, 1) := by decide +kernel
theorem d_Md_findPegs_50 : decode c_Md_findPegs 50 = .ok (.iconst (-1), 1) := by decide +kernel
theorem d_Md_findPegs_51 : decode c_Md_findPegs 51 = .ok (.putfield 303, 3) := by decide +kernel
theorem d_Md_findPegs_54 : decode c_Md_findPegs 54 = .ok (.iconst 0, 1) := by decide +kernel
theorem d_Md_findPegs_55 : decode c_Md_findPegs 55 = .ok (.istore 5, 2) := by decide +kernel
theorem d_Md_findPegs_57 : decode c_Md_findPegs 57 = .ok (.iconst 0, 1) := by decide +kernel
theorem d_Md_findPegs_58 : decode c_Md_findPegs 58 = .ok (.istore 6, 2) := by decide +kernel
theorem d_Md_findPegs_60 : decode c_Md_findPegs 60 = .ok (.iload 6, 2) := by decide +kernel
theorem d_Md_findPegs_62 : decode c_Md_findPegs 62 = .ok (.bipush 100, 2) := by decide +kernel
theorem d_Md_findPegs_64 : decode c_Md_findPegs 64 = .ok (.if_icmp .ge 131, 3) := by decide +kernel
theorem d_Md_findPegs_67 : decode c_Md_findPegs 67 = .ok (.aload_n 0, 1) := by decide +kernel
theorem d_Md_findPegs_68 : decode c_Md_findPegs 68 = .ok (.getfield 28, 3) := by decide +kernel
theorem d_Md_findPegs_71 : decode c_Md_findPegs 71 = .ok (.iload 4, 2) := by decide +kernel
theorem d_Md_findPegs_73 : decode c_Md_findPegs 73 = .ok (.iload 6, 2) := by decide +kernel
theorem d_Md_findPegs_75 : decode c_Md_findPegs 75 = .ok (.bipush 10, 2) := by decide +kernel
theorem d_Md_findPegs_77 : decode c_Md_findPegs 77 = .ok (.idiv, 1) := by decide +kernel
theorem d_Md_findPegs_78 : decode c_Md_findPegs 78 = .ok (.iastore, 1) := by decide +kernel
theorem d_Md_findPegs_79 : decode c_Md_findPegs 79 = .ok (.aload_n 0, 1) := by decide +kernel
theorem d_Md_findPegs_80 : decode c_Md_findPegs 80 = .ok (.getfield 28, 3) := by decide +kernel
theorem d_Md_findPegs_83 : decode c_Md_findPegs 83 = .ok (.iload 4, 2) := by decide +kernel
theorem d_Md_findPegs_85 : decode c_Md_findPegs 85 = .ok (.iconst 1, 1) := by decide +kernel
theorem d_Md_findPegs_86 : decode c_Md_findPegs 86 = .ok (.iadd, 1) := by decide +kernel
theorem d_Md_findPegs_87 : decode c_Md_findPegs 87 = .ok (.iload 6, 2) := by decide +kernel
theorem d_Md_findPegs_89 : decode c_Md_findPegs 89 = .ok (.bipush 10, 2) := by decide +kernel
theorem d_Md_findPegs_91 : decode c_Md_findPegs 91 = .ok (.irem, 1) := by decide +kernel
theorem d_Md_findPegs_92 : decode c_Md_findPegs 92 = .ok (.iastore, 1) := by decide +kernel
theorem d_Md_findPegs_93 : decode c_Md_findPegs 93 = .ok (.aload_n 0, 1) := by decide +kernel
theorem d_Md_findPegs_94 : decode c_Md_findPegs 94 = .ok (.aload_n 0, 1) := by decide +kernel
theorem d_Md_findPegs_95 : decode c_Md_findPegs 95 = .ok (.getfield 114, 3) := by decide +kernel
theorem d_Md_findPegs_98 : decode c_Md_findPegs 98 = .ok (.iconst 1, 1) := by decide +kernel
theorem d_Md_findPegs_99 : decode c_Md_findPegs 99 = .ok (.iadd, 1) := by decide +kernel
theorem d_Md_findPegs_100 : decode c_Md_findPegs 100 = .ok (.iconst (-1), 1) := by decide +kernel
theorem d_Md_findPegs_101 : decode c_Md_findPegs 101 = .ok (.invokevirtual 288, 3) := by decide +kernel
theorem d_Md_findPegs_104 : decode c_Md_findPegs 104 = .ok (.aload_n 0, 1) := by decide +kernel
theorem d_Md_findPegs_105 : decode c_Md_findPegs 105 = .ok (.aload_n 0, 1) := by decide +kernel
theorem d_Md_findPegs_106 : decode c_Md_findPegs 106 = .ok (.getfield 114, 3) := by decide +kernel
theorem d_Md_findPegs_109 : decode c_Md_findPegs 109 = .ok (.invokevirtual 161, 3) := by decide +kernel
theorem d_Md_findPegs_112 : decode c_Md_findPegs 112 = .ok (.istore 7, 2) := by decide +kernel
theorem d_Md_findPegs_114 : decode c_Md_findPegs 114 = .ok (.aload_n 0, 1) := by decide +kernel
theorem d_Md_findPegs_115 : decode c_Md_findPegs 115 = .ok (.getfield 270, 3) := by decide +kernel
theorem d_Md_findPegs_118 : decode c_Md_findPegs 118 = .ok (.iconst (-1), 1) := by decide +kernel
theorem d_Md_findPegs_119 : decode c_Md_findPegs 119 = .ok (.if_icmp .eq 70, 3) := by decide +kernel
theorem d_Md_findPegs_122 : decode c_Md_findPegs 122 = .ok (.aload_n 0, 1) := by decide +kernel
theorem d_Md_findPegs_123 : decode c_Md_findPegs 123 = .ok (.getfield 303, 3) := by decide +kernel
theorem d_Md_findPegs_126 : decode c_Md_findPegs 126 = .ok (.iconst (-1), 1) := by decide +kernel
theorem d_Md_findPegs_127 : decode c_Md_findPegs 127 = .ok (.if_icmp .eq 32, 3) := by decide +kernel
theorem d_Md_findPegs_130 : decode c_Md_findPegs 130 = .ok (.aload_n 0, 1) := by decide +kernel
theorem d_Md_findPegs_131 : decode c_Md_findPegs 131 = .ok (.getfield 270, 3) := by decide +kernel
theorem d_Md_findPegs_134 : decode c_Md_findPegs 134 = .ok (.aload_n 0, 1) := by decide +kernel
theorem d_Md_findPegs_135 : decode c_Md_findPegs 135 = .ok (.getfield 303, 3) := by decide +kernel
theorem d_Md_findPegs_138 : decode c_Md_findPegs 138 = .ok (.if_icmp .lt 21, 3) := by decide +kernel
theorem d_Md_findPegs_141 : decode c_Md_findPegs 141 = .ok (.aload_n 0, 1) := by decide +kernel
theorem d_Md_findPegs_142 : decode c_Md_findPegs 142 = .ok (.getfield 270, 3) := by decide +kernel
theorem d_Md_findPegs_145 : decode c_Md_findPegs 145 = .ok (.aload_n 0, 1) := by decide +kernel
theorem d_Md_findPegs_146 : decode c_Md_findPegs 146 = .ok (.getfield 303, 3) := by decide +kernel
theorem d_Md_findPegs_149 : decode c_Md_findPegs 149 = .ok (.if_icmp .ne 40, 3) := by decide +kernel
theorem d_Md_findPegs_152 : decode c_Md_findPegs 152 = .ok (.iload 7, 2) := by decide +kernel
theorem d_Md_findPegs_154 : decode c_Md_findPegs 154 = .ok (.iload 5, 2) := by decide +kernel
theorem d_Md_findPegs_156 : decode c_Md_findPegs 156 = .ok (.if_icmp .ge 33, 3) := by decide +kernel
theorem d_Md_findPegs_159 : decode c_Md_findPegs 159 = .ok (.aload_n 0, 1) := by decide +kernel
theorem d_Md_findPegs_160 : decode c_Md_findPegs 160 = .ok (.iload 6, 2) := by decide +kernel
theorem d_Md_findPegs_162 : decode c_Md_findPegs 162 = .ok (.bipush 10, 2) := by decide +kernel
theorem d_Md_findPegs_164 : decode c_Md_findPegs 164 = .ok (.idiv, 1) := by decide +kernel
theorem d_Md_findPegs_165 : decode c_Md_findPegs 165 = .ok (.putfield 297, 3) := by decide +kernel
theorem d_Md_findPegs_168 : decode c_Md_findPegs 168 = .ok (.aload_n 0, 1) := by decide +kernel
theorem d_Md_findPegs_169 : decode c_Md_findPegs 169 = .ok (.iload 6, 2) := by decide +kernel
theorem d_Md_findPegs_171 : decode c_Md_findPegs 171 = .ok (.bipush 10, 2) := by decide +kernel
theorem d_Md_findPegs_173 : decode c_Md_findPegs 173 = .ok (.irem, 1) := by decide +kernel
theorem d_Md_findPegs_174 : decode c_Md_findPegs 174 = .ok (.putfield 300, 3) := by decide +kernel
theorem d_Md_findPegs_177 : decode c_Md_findPegs 177 = .ok (.aload_n 0, 1) := by decide +kernel
theorem d_Md_findPegs_178 : decode c_Md_findPegs 178 = .ok (.aload_n 0, 1) := by decide +kernel
theorem d_Md_findPegs_179 : decode c_Md_findPegs 179 = .ok (.getfield 270, 3) := by decide +kernel
theorem d_Md_findPegs_182 : decode c_Md_findPegs 182 = .ok (.putfield 303, 3) := by decide +kernel
theorem d_Md_findPegs_185 : decode c_Md_findPegs 185 = .ok (.iload 7, 2) := by decide +kernel
theorem d_Md_findPegs_187 : decode c_Md_findPegs 187 = .ok (.istore 5, 2) := by decide +kernel
theorem d_Md_findPegs_189 : decode c_Md_findPegs 189 = .ok (.iinc 6 1, 3) := by decide +kernel
theorem d_Md_findPegs_192 : decode c_Md_findPegs 192 = .ok (.goto (-132), 3) := by decide +kernel
theorem d_Md_findPegs_195 : decode c_Md_findPegs 195 = .ok (.return_, 1) := by decide +kernel
theorem d_Md_pegs_0 : decode c_Md_pegs 0 = .ok (.iload_n 1, 1) := by decide +kernel
theorem d_Md_pegs_1 : decode c_Md_pegs 1 = .ok (.i2l, 1) := by decide +kernel
theorem d_Md_pegs_2 : decode c_Md_pegs 2 = .ok (.lconst 0, 1) := by decide +kernel
theorem d_Md_pegs_3 : decode c_Md_pegs 3 = .ok (.ldc2_w 91, 3) := by decide +kernel
theorem d_Md_pegs_6 : decode c_Md_pegs 6 = .ok (.invokestatic 73, 3) := by decide +kernel
theorem d_Md_pegs_9 : decode c_Md_pegs 9 = .ok (.ifCond .eq 30, 3) := by decide +kernel
theorem d_Md_pegs_12 : decode c_Md_pegs 12 = .ok (.iload_n 2, 1) := by decide +kernel
theorem d_Md_pegs_13 : decode c_Md_pegs 13 = .ok (.invokestatic 189, 3) := by decide +kernel
theorem d_Md_pegs_16 : decode c_Md_pegs 16 = .ok (.ifCond .eq 23, 3) := by decide +kernel
theorem d_Md_pegs_19 : decode c_Md_pegs 19 = .ok (.iload_n 3, 1) := by decide +kernel
theorem d_Md_pegs_20 : decode c_Md_pegs 20 = .ok (.invokestatic 189, 3) := by decide +kernel
theorem d_Md_pegs_23 : decode c_Md_pegs 23 = .ok (.ifCond .eq 16, 3) := by decide +kernel
theorem d_Md_pegs_26 : decode c_Md_pegs 26 = .ok (.iload 4, 2) := by decide +kernel
theorem d_Md_pegs_28 : decode c_Md_pegs 28 = .ok (.i2l, 1) := by decide +kernel
theorem d_Md_pegs_29 : decode c_Md_pegs 29 = .ok (.lconst 0, 1) := by decide +kernel
theorem d_Md_pegs_30 : decode c_Md_pegs 30 = .ok (.ldc2_w 91, 3) := by decide +kernel
theorem d_Md_pegs_33 : decode c_Md_pegs 33 = .ok (.invokestatic 73, 3) := by decide +kernel
theorem d_Md_pegs_36 : decode c_Md_pegs 36 = .ok (.ifCond .ne 6, 3) := by decide +kernel
theorem d_Md_pegs_39 : decode c_Md_pegs 39 = .ok (.bipush (-2), 2) := by decide +kernel
theorem d_Md_pegs_41 : decode c_Md_pegs 41 = .ok (.ireturn, 1) := by decide +kernel
theorem d_Md_pegs_42 : decode c_Md_pegs 42 = .ok (.aload_n 0, 1) := by decide +kernel
theorem d_Md_pegs_43 : decode c_Md_pegs 43 = .ok (.invokevirtual 137, 3) := by decide +kernel
theorem d_Md_pegs_46 : decode c_Md_pegs 46 = .ok (.pop, 1) := by decide +kernel
theorem d_Md_pegs_47 : decode c_Md_pegs 47 = .ok (.aload_n 0, 1) := by decide +kernel
theorem d_Md_pegs_48 : decode c_Md_pegs 48 = .ok (.iload_n 1, 1) := by decide +kernel
theorem d_Md_pegs_49 : decode c_Md_pegs 49 = .ok (.iload_n 2, 1) := by decide +kernel
theorem d_Md_pegs_50 : decode c_Md_pegs 50 = .ok (.iload_n 3, 1) := by decide +kernel
theorem d_Md_pegs_51 : decode c_Md_pegs 51 = .ok (.invokevirtual 306, 3) := by decide +kernel
theorem d_Md_pegs_54 : decode c_Md_pegs 54 = .ok (.iload 4, 2) := by decide +kernel
theorem d_Md_pegs_56 : decode c_Md_pegs 56 = .ok (.ifCond .ne 10, 3) := by decide +kernel
theorem d_Md_pegs_59 : decode c_Md_pegs 59 = .ok (.aload_n 0, 1) := by decide +kernel
theorem d_Md_pegs_60 : decode c_Md_pegs 60 = .ok (.getfield 297, 3) := by decide +kernel
theorem d_Md_pegs_63 : decode c_Md_pegs 63 = .ok (.goto 20, 3) := by decide +kernel
theorem d_Md_pegs_66 : decode c_Md_pegs 66 = .ok (.iload 4, 2) := by decide +kernel
theorem d_Md_pegs_68 : decode c_Md_pegs 68 = .ok (.iconst 1, 1) := by decide +kernel
theorem d_Md_pegs_69 : decode c_Md_pegs 69 = .ok (.if_icmp .ne 10, 3) := by decide +kernel
theorem d_Md_pegs_72 : decode c_Md_pegs 72 = .ok (.aload_n 0, 1) := by decide +kernel
theorem d_Md_pegs_73 : decode c_Md_pegs 73 = .ok (.getfield 300, 3) := by decide +kernel
theorem d_Md_pegs_76 : decode c_Md_pegs 76 = .ok (.goto 7, 3) := by decide +kernel
theorem d_Md_pegs_79 : decode c_Md_pegs 79 = .ok (.aload_n 0, 1) := by decide +kernel
theorem d_Md_pegs_80 : decode c_Md_pegs 80 = .ok (.getfield 303, 3) := by decide +kernel
theorem d_Md_pegs_83 : decode c_Md_pegs 83 = .ok (.ireturn, 1) := by decide +kernel
theorem d_Md_findBalances_0 : decode c_Md_findBalances 0 = .ok (.aload_n 0, 1) := by decide +kernel
theorem d_Md_findBalances_1 : decode c_Md_findBalances 1 = .ok (.invokevirtual 137, 3) := by decide +kernel
theorem d_Md_findBalances_4 : decode c_Md_findBalances 4 = .ok (.pop, 1) := by decide +kernel
theorem d_Md_findBalances_5 : decode c_Md_findBalances 5 = .ok (.iconst 0, 1) := by decide +kernel
theorem d_Md_findBalances_6 : decode c_Md_findBalances 6 = .ok (.istore_n 1, 1) := by decide +kernel
theorem d_Md_findBalances_7 : decode c_Md_findBalances 7 = .ok (.iload_n 1, 1) := by decide +kernel
theorem d_Md_findBalances_8 : decode c_Md_findBalances 8 = .ok (.iconst 5, 1) := by decide +kernel
theorem d_Md_findBalances_9 : decode c_Md_findBalances 9 = .ok (.if_icmp .ge 16, 3) := by decide +kernel
theorem d_Md_findBalances_12 : decode c_Md_findBalances 12 = .ok (.aload_n 0, 1) := by decide +kernel
theorem d_Md_findBalances_13 : decode c_Md_findBalances 13 = .ok (.getfield 58, 3) := by decide +kernel
theorem d_Md_findBalances_16 : decode c_Md_findBalances 16 = .ok (.iload_n 1, 1) := by decide +kernel
theorem d_Md_findBalances_17 : decode c_Md_findBalances 17 = .ok (.iconst 0, 1) := by decide +kernel
theorem d_Md_findBalances_18 : decode c_Md_findBalances 18 = .ok (.iastore, 1) := by decide +kernel
theorem d_Md_findBalances_19 : decode c_Md_findBalances 19 = .ok (.iinc 1 1, 3) := by decide +kernel
theorem d_Md_findBalances_22 : decode c_Md_findBalances 22 = .ok (.goto (-15), 3) := by decide +kernel
theorem d_Md_findBalances_25 : decode c_Md_findBalances 25 = .ok (.iconst 0, 1) := by decide +kernel
theorem d_Md_findBalances_26 : decode c_Md_findBalances 26 = .ok (.istore_n 1, 1) := by decide +kernel
theorem d_Md_findBalances_27 : decode c_Md_findBalances 27 = .ok (.iload_n 1, 1) := by decide +kernel
theorem d_Md_findBalances_28 : decode c_Md_findBalances 28 = .ok (.aload_n 0, 1) := by decide +kernel
theorem d_Md_findBalances_29 : decode c_Md_findBalances 29 = .ok (.getfield 209, 3) := by decide +kernel
theorem d_Md_findBalances_32 : decode c_Md_findBalances 32 = .ok (.if_icmp .ge 91, 3) := by decide +kernel
theorem d_Md_findBalances_35 : decode c_Md_findBalances 35 = .ok (.aload_n 0, 1) := by decide +kernel
theorem d_Md_findBalances_36 : decode c_Md_findBalances 36 = .ok (.iload_n 1, 1) := by decide +kernel
theorem d_Md_findBalances_37 : decode c_Md_findBalances 37 = .ok (.invokevirtual 219, 3) := by decide +kernel
theorem d_Md_findBalances_40 : decode c_Md_findBalances 40 = .ok (.ifCond .eq 77, 3) := by decide +kernel
theorem d_Md_findBalances_43 : decode c_Md_findBalances 43 = .ok (.aload_n 0, 1) := by decide +kernel
theorem d_Md_findBalances_44 : decode c_Md_findBalances 44 = .ok (.getfield 37, 3) := by decide +kernel
theorem d_Md_findBalances_47 : decode c_Md_findBalances 47 = .ok (.iconst 5, 1) := by decide +kernel
theorem d_Md_findBalances_48 : decode c_Md_findBalances 48 = .ok (.iload_n 1, 1) := by decide +kernel
theorem d_Md_findBalances_49 : decode c_Md_findBalances 49 = .ok (.imul, 1) := by decide +kernel
theorem d_Md_findBalances_50 : decode c_Md_findBalances 50 = .ok (.iaload, 1) := by decide +kernel
theorem d_Md_findBalances_51 : decode c_Md_findBalances 51 = .ok (.istore_n 2, 1) := by decide +kernel
theorem d_Md_findBalances_52 : decode c_Md_findBalances 52 = .ok (.aload_n 0, 1) := by decide +kernel
theorem d_Md_findBalances_53 : decode c_Md_findBalances 53 = .ok (.iload_n 2, 1) := by decide +kernel
theorem d_Md_findBalances_54 : decode c_Md_findBalances 54 = .ok (.aload_n 0, 1) := by decide +kernel
theorem d_Md_findBalances_55 : decode c_Md_findBalances 55 = .ok (.getfield 37, 3) := by decide +kernel
theorem d_Md_findBalances_58 : decode c_Md_findBalances 58 = .ok (.iconst 5, 1) := by decide +kernel
theorem d_Md_findBalances_59 : decode c_Md_findBalances 59 = .ok (.iload_n 1, 1) := by decide +kernel
theorem d_Md_findBalances_60 : decode c_Md_findBalances 60 = .ok (.imul, 1) := by decide +kernel
theorem d_Md_findBalances_61 : decode c_Md_findBalances 61 = .ok (.iconst 1, 1) := by decide +kernel
theorem d_Md_findBalances_62 : decode c_Md_findBalances 62 = .ok (.iadd, 1) := by decide +kernel
theorem d_Md_findBalances_63 : decode c_Md_findBalances 63 = .ok (.iaload, 1) := by decide +kernel
theorem d_Md_findBalances_64 : decode c_Md_findBalances 64 = .ok (.aload_n 0, 1) := by decide +kernel
theorem d_Md_findBalances_65 : decode c_Md_findBalances 65 = .ok (.getfield 37, 3) := by decide +kernel
theorem d_Md_findBalances_68 : decode c_Md_findBalances 68 = .ok (.iconst 5, 1) := by decide +kernel
theorem d_Md_findBalances_69 : decode c_Md_findBalances 69 = .ok (.iload_n 1, 1) := by decide +kernel
theorem d_Md_findBalances_70 : decode c_Md_findBalances 70 = .ok (.imul, 1) := by decide +kernel
theorem d_Md_findBalances_71 : decode c_Md_findBalances 71 = .ok (.iconst 3, 1) := by decide +kernel
theorem d_Md_findBalances_72 : decode c_Md_findBalances 72 = .ok (.iadd, 1) := by decide +kernel
theorem d_Md_findBalances_73 : decode c_Md_findBalances 73 = .ok (.iaload, 1) := by decide +kernel
theorem d_Md_findBalances_74 : decode c_Md_findBalances 74 = .ok (.invokevirtual 195, 3) := by decide +kernel
theorem d_Md_findBalances_77 : decode c_Md_findBalances 77 = .ok (.istore_n 3, 1) := by decide +kernel
theorem d_Md_findBalances_78 : decode c_Md_findBalances 78 = .ok (.aload_n 0, 1) := by decide +kernel
theorem d_Md_findBalances_79 : decode c_Md_findBalances 79 = .ok (.getfield 58, 3) := by decide +kernel
theorem d_Md_findBalances_82 : decode c_Md_findBalances 82 = .ok (.aload_n 0, 1) := by decide +kernel
theorem d_Md_findBalances_83 : decode c_Md_findBalances 83 = .ok (.getfield 37, 3) := by decide +kernel
theorem d_Md_findBalances_86 : decode c_Md_findBalances 86 = .ok (.iconst 5, 1) := by decide +kernel
theorem d_Md_findBalances_87 : decode c_Md_findBalances 87 = .ok (.iload_n 1, 1) := by decide +kernel
theorem d_Md_findBalances_88 : decode c_Md_findBalances 88 = .ok (.imul, 1) := by decide +kernel
theorem d_Md_findBalances_89 : decode c_Md_findBalances 89 = .ok (.iconst 4, 1) := by decide +kernel
theorem d_Md_findBalances_90 : decode c_Md_findBalances 90 = .ok (.iadd, 1) := by decide +kernel
theorem d_Md_findBalances_91 : decode c_Md_findBalances 91 = .ok (.iaload, 1) := by decide +kernel
theorem d_Md_findBalances_92 : decode c_Md_findBalances 92 = .ok (.dup2, 1) := by decide +kernel
theorem d_Md_findBalances_93 : decode c_Md_findBalances 93 = .ok (.iaload, 1) := by decide +kernel
theorem d_Md_findBalances_94 : decode c_Md_findBalances 94 = .ok (.iload_n 3, 1) := by decide +kernel
theorem d_Md_findBalances_95 : decode c_Md_findBalances 95 = .ok (.isub, 1) := by decide +kernel
theorem d_Md_findBalances_96 : decode c_Md_findBalances 96 = .ok (.iastore, 1) := by decide +kernel
theorem d_Md_findBalances_97 : decode c_Md_findBalances 97 = .ok (.aload_n 0, 1) := by decide +kernel
theorem d_Md_findBalances_98 : decode c_Md_findBalances 98 = .ok (.getfield 58, 3) := by decide +kernel
theorem d_Md_findBalances_101 : decode c_Md_findBalances 101 = .ok (.aload_n 0, 1) := by decide +kernel
theorem d_Md_findBalances_102 : decode c_Md_findBalances 102 = .ok (.getfield 28, 3) := by decide +kernel
theorem d_Md_findBalances_105 : decode c_Md_findBalances 105 = .ok (.bipush 6, 2) := by decide +kernel
theorem d_Md_findBalances_107 : decode c_Md_findBalances 107 = .ok (.iload_n 2, 1) := by decide +kernel
theorem d_Md_findBalances_108 : decode c_Md_findBalances 108 = .ok (.imul, 1) := by decide +kernel
theorem d_Md_findBalances_109 : decode c_Md_findBalances 109 = .ok (.iconst 5, 1) := by decide +kernel
theorem d_Md_findBalances_110 : decode c_Md_findBalances 110 = .ok (.iadd, 1) := by decide +kernel
theorem d_Md_findBalances_111 : decode c_Md_findBalances 111 = .ok (.iaload, 1) := by decide +kernel
theorem d_Md_findBalances_112 : decode c_Md_findBalances 112 = .ok (.dup2, 1) := by decide +kernel
theorem d_Md_findBalances_113 : decode c_Md_findBalances 113 = .ok (.iaload, 1) := by decide +kernel
theorem d_Md_findBalances_114 : decode c_Md_findBalances 114 = .ok (.iload_n 3, 1) := by decide +kernel
theorem d_Md_findBalances_115 : decode c_Md_findBalances 115 = .ok (.iadd, 1) := by decide +kernel
theorem d_Md_findBalances_116 : decode c_Md_findBalances 116 = .ok (.iastore, 1) := by decide +kernel
theorem d_Md_findBalances_117 : decode c_Md_findBalances 117 = .ok (.iinc 1 1, 3) := by decide +kernel
theorem d_Md_findBalances_120 : decode c_Md_findBalances 120 = .ok (.goto (-93), 3) := by decide +kernel
theorem d_Md_findBalances_123 : decode c_Md_findBalances 123 = .ok (.return_, 1) := by decide +kernel
theorem d_Md_balanceOf_0 : decode c_Md_balanceOf 0 = .ok (.aload_n 0, 1) := by decide +kernel
theorem d_Md_balanceOf_1 : decode c_Md_balanceOf 1 = .ok (.invokevirtual 310, 3) := by decide +kernel
theorem d_Md_balanceOf_4 : decode c_Md_balanceOf 4 = .ok (.aload_n 0, 1) := by decide +kernel
theorem d_Md_balanceOf_5 : decode c_Md_balanceOf 5 = .ok (.getfield 58, 3) := by decide +kernel
theorem d_Md_balanceOf_8 : decode c_Md_balanceOf 8 = .ok (.iload_n 1, 1) := by decide +kernel
theorem d_Md_balanceOf_9 : decode c_Md_balanceOf 9 = .ok (.iaload, 1) := by decide +kernel
theorem d_Md_balanceOf_10 : decode c_Md_balanceOf 10 = .ok (.ireturn, 1) := by decide +kernel
theorem d_Md_balance_0 : decode c_Md_balance 0 = .ok (.iload_n 1, 1) := by decide +kernel
theorem d_Md_balance_1 : decode c_Md_balance 1 = .ok (.invokestatic 206, 3) := by decide +kernel
theorem d_Md_balance_4 : decode c_Md_balance 4 = .ok (.ifCond .eq 11, 3) := by decide +kernel
theorem d_Md_balance_7 : decode c_Md_balance 7 = .ok (.aload_n 0, 1) := by decide +kernel
theorem d_Md_balance_8 : decode c_Md_balance 8 = .ok (.iload_n 1, 1) := by decide +kernel
theorem d_Md_balance_9 : decode c_Md_balance 9 = .ok (.invokevirtual 313, 3) := by decide +kernel
theorem d_Md_balance_12 : decode c_Md_balance 12 = .ok (.goto 6, 3) := by decide +kernel
theorem d_Md_balance_15 : decode c_Md_balance 15 = .ok (.sipush (-10002), 3) := by decide +kernel
theorem d_Md_balance_18 : decode c_Md_balance 18 = .ok (.ireturn, 1) := by decide +kernel
theorem d_Md_sumOf_0 : decode c_Md_sumOf 0 = .ok (.iconst 0, 1) := by decide +kernel
theorem d_Md_sumOf_1 : decode c_Md_sumOf 1 = .ok (.istore_n 2, 1) := by decide +kernel
theorem d_Md_sumOf_2 : decode c_Md_sumOf 2 = .ok (.iconst 0, 1) := by decide +kernel
theorem d_Md_sumOf_3 : decode c_Md_sumOf 3 = .ok (.istore_n 3, 1) := by decide +kernel
theorem d_Md_sumOf_4 : decode c_Md_sumOf 4 = .ok (.iload_n 3, 1) := by decide +kernel
theorem d_Md_sumOf_5 : decode c_Md_sumOf 5 = .ok (.iconst 5, 1) := by decide +kernel
theorem d_Md_sumOf_6 : decode c_Md_sumOf 6 = .ok (.if_icmp .ge 31, 3) := by decide +kernel
theorem d_Md_sumOf_9 : decode c_Md_sumOf 9 = .ok (.iload_n 2, 1) := by decide +kernel
theorem d_Md_sumOf_10 : decode c_Md_sumOf 10 = .ok (.iload_n 1, 1) := by decide +kernel
theorem d_Md_sumOf_11 : decode c_Md_sumOf 11 = .ok (.iload_n 3, 1) := by decide +kernel
theorem d_Md_sumOf_12 : decode c_Md_sumOf 12 = .ok (.ishr, 1) := by decide +kernel
theorem d_Md_sumOf_13 : decode c_Md_sumOf 13 = .ok (.iconst 1, 1) := by decide +kernel
theorem d_Md_sumOf_14 : decode c_Md_sumOf 14 = .ok (.iand, 1) := by decide +kernel
theorem d_Md_sumOf_15 : decode c_Md_sumOf 15 = .ok (.iconst 1, 1) := by decide +kernel
theorem d_Md_sumOf_16 : decode c_Md_sumOf 16 = .ok (.if_icmp .ne 12, 3) := by decide +kernel
theorem d_Md_sumOf_19 : decode c_Md_sumOf 19 = .ok (.aload_n 0, 1) := by decide +kernel
theorem d_Md_sumOf_20 : decode c_Md_sumOf 20 = .ok (.getfield 58, 3) := by decide +kernel
theorem d_Md_sumOf_23 : decode c_Md_sumOf 23 = .ok (.iload_n 3, 1) := by decide +kernel
theorem d_Md_sumOf_24 : decode c_Md_sumOf 24 = .ok (.iaload, 1) := by decide +kernel
theorem d_Md_sumOf_25 : decode c_Md_sumOf 25 = .ok (.goto 4, 3) := by decide +kernel
theorem d_Md_sumOf_28 : decode c_Md_sumOf 28 = .ok (.iconst 0, 1) := by decide +kernel
theorem d_Md_sumOf_29 : decode c_Md_sumOf 29 = .ok (.iadd, 1) := by decide +kernel
theorem d_Md_sumOf_30 : decode c_Md_sumOf 30 = .ok (.istore_n 2, 1) := by decide +kernel
theorem d_Md_sumOf_31 : decode c_Md_sumOf 31 = .ok (.iinc 3 1, 3) := by decide +kernel
theorem d_Md_sumOf_34 : decode c_Md_sumOf 34 = .ok (.goto (-30), 3) := by decide +kernel
theorem d_Md_sumOf_37 : decode c_Md_sumOf 37 = .ok (.iload_n 2, 1) := by decide +kernel
theorem d_Md_sumOf_38 : decode c_Md_sumOf 38 = .ok (.ireturn, 1) := by decide +kernel
def f_Md_neededNow_57 (k13 : Sg → Int32 → Int32 → Option (Int32 × Sg)) (σ : Sg) (v1 : Int32) (v2 : Int32) : Option (Int32 × Sg) :=
  k13 σ v1 (v2 + 1)
set_option maxHeartbeats 4000000 in
theorem j_Md_neededNow_57 {V : Vx} {X : Xx} {r : Int32} {σ' : Sg} {k13 : Sg → Int32 → Int32 → Option (Int32 × Sg)} (hk13 : ∀ (σ : Sg) (v1 : Int32) (v2 : Int32), k13 σ v1 v2 = some (r, σ') → J V X (k2_rm 4 98) c_Md_neededNow R_Md 3 (some .int) (Qr V X (some (.int r)) σ') σ 13 [(0, rf V 66), (1, .int v1), (2, .int v2)] []) (σ : Sg) (v1 : Int32) (v2 : Int32) (hf : f_Md_neededNow_57 k13 σ v1 v2 = some (r, σ')) : J V X (k2_rm 4 98) c_Md_neededNow R_Md 3 (some .int) (Qr V X (some (.int r)) σ') σ 57 [(0, rf V 66), (1, .int v1), (2, .int v2)] [] := by
  unfold f_Md_neededNow_57 at hf
  refine J_iinc (pc' := 60) (j := 2) (v := 1) (lv' := [(2, .int (v2 + 1)), (0, rf V 66), (1, .int v1)]) d_Md_neededNow_57 rfl rfl ic_1 (by decide) rfl ?_
  refine J_goto (tgt := 13) d_Md_neededNow_60 (by decide) ?_
  refine J_pick [1, 2, 0] rfl ?_
  exact hk13 _ _ _ hf
def f_Md_neededNow_13 : Nat → Sg → Int32 → Int32 → Option (Int32 × Sg)
  | 0, _, _, _ => none
  | n + 1, σ, v1, v2 =>
    if (σ.1 66 8) ≤ v2 then
      some (v1, σ)
    else
      if (σ.1 66 24) = (-1) then
        some (v1, σ)
      else
        (f_Md_findSent σ (σ.1 66 8) v2).bind fun σ6 =>
          if (σ6.1 66 24) = (-1) then
            f_Md_neededNow_57 (f_Md_neededNow_13 n) (pI σ6 66 24 0) (v1 ||| (1 <<< (v2 &&& 31))) v2
          else
            f_Md_neededNow_57 (f_Md_neededNow_13 n) σ6 v1 v2
theorem f_Md_neededNow_13_s (n : Nat) (σ : Sg) (v1 : Int32) (v2 : Int32) : f_Md_neededNow_13 (n + 1) σ v1 v2 =
    if (σ.1 66 8) ≤ v2 then
      some (v1, σ)
    else
      if (σ.1 66 24) = (-1) then
        some (v1, σ)
      else
        (f_Md_findSent σ (σ.1 66 8) v2).bind fun σ6 =>
          if (σ6.1 66 24) = (-1) then
            f_Md_neededNow_57 (f_Md_neededNow_13 n) (pI σ6 66 24 0) (v1 ||| (1 <<< (v2 &&& 31))) v2
          else
            f_Md_neededNow_57 (f_Md_neededNow_13 n) σ6 v1 v2 := rfl
set_option maxHeartbeats 4000000 in
theorem j_Md_neededNow_13 {V : Vx} {X : Xx} {r : Int32} {σ' : Sg}  : ∀ (n : Nat) (σ : Sg) (v1 : Int32) (v2 : Int32), f_Md_neededNow_13 n σ v1 v2 = some (r, σ') → J V X (k2_rm 4 98) c_Md_neededNow R_Md 3 (some .int) (Qr V X (some (.int r)) σ') σ 13 [(0, rf V 66), (1, .int v1), (2, .int v2)] [] := by
  intro n
  induction n with
  | zero => intro σ v1 v2 hf; exact nn hf
  | succ n ih =>
    intro σ v1 v2 hf
    rw [f_Md_neededNow_13_s] at hf
    refine J_iload_n (pc' := 14) d_Md_neededNow_13 rfl 2 rfl ?_
    refine J_aload_n (pc' := 15) d_Md_neededNow_14 rfl 0 rfl ?_
    refine J_getI (pc' := 18) d_Md_neededNow_15 rfl sh_66 fl_Md_114 rfl ?_
    refine J_icmp_ge (pc' := 21) (tgt := 63) d_Md_neededNow_18 rfl (by decide) (fun hc3 => ?_) (fun hc3 => ?_)
    · have hf := brT hc3 hf
      refine J_iload_n (pc' := 64) d_Md_neededNow_63 rfl 1 rfl ?_
      obtain ⟨rfl, rfl⟩ := resE hf
      exact J_iret d_Md_neededNow_64
    · have hf := brF hc3 hf
      refine J_aload_n (pc' := 22) d_Md_neededNow_21 rfl 0 rfl ?_
      refine J_getI (pc' := 25) d_Md_neededNow_22 rfl sh_66 fl_Md_270 rfl ?_
      refine J_iconst (pc' := 26) (v := (-1)) d_Md_neededNow_25 rfl ic_m1 ?_
      refine J_icmp_eq (pc' := 29) (tgt := 63) d_Md_neededNow_26 rfl (by decide) (fun hc4 => ?_) (fun hc4 => ?_)
      · have hf := brT hc4 hf
        refine J_iload_n (pc' := 64) d_Md_neededNow_63 rfl 1 rfl ?_
        obtain ⟨rfl, rfl⟩ := resE hf
        exact J_iret d_Md_neededNow_64
      · have hf := brF hc4 hf
        refine J_aload_n (pc' := 30) d_Md_neededNow_29 rfl 0 rfl ?_
        refine J_aload_n (pc' := 31) d_Md_neededNow_30 rfl 0 rfl ?_
        refine J_getI (pc' := 34) d_Md_neededNow_31 rfl sh_66 fl_Md_114 rfl ?_
        refine J_iload_n (pc' := 35) d_Md_neededNow_34 rfl 2 rfl ?_
        obtain ⟨σ6, hq5, hf⟩ := bpE hf
        refine J_V (pc' := 38) (as := [.int (σ.1 66 8), .int v2]) (rest := []) (st' := []) d_Md_neededNow_35 rfl sh_66 rfl mv_Md_288 (ct_Md_findSent V _ σ (σ.1 66 8) v2 hq5) rfl rfl ⟨Nat.le_of_ble_eq_true rfl, Nat.le_of_ble_eq_true rfl⟩ ⟨rfl, rfl⟩ (Nat.le_of_ble_eq_true rfl) rfl ?_
        refine J_aload_n (pc' := 39) d_Md_neededNow_38 rfl 0 rfl ?_
        refine J_getI (pc' := 42) d_Md_neededNow_39 rfl sh_66 fl_Md_270 rfl ?_
        refine J_iconst (pc' := 43) (v := (-1)) d_Md_neededNow_42 rfl ic_m1 ?_
        refine J_icmp_ne (pc' := 46) (tgt := 57) d_Md_neededNow_43 rfl (by decide) (fun hc7 => ?_) (fun hc7 => ?_)
        · have hf := brF hc7 hf
          exact j_Md_neededNow_57 ih _ _ _ hf
        · have hf := brT hc7 hf
          refine J_iload_n (pc' := 47) d_Md_neededNow_46 rfl 1 rfl ?_
          refine J_iconst (pc' := 48) (v := 1) d_Md_neededNow_47 rfl ic_1 ?_
          refine J_iload_n (pc' := 49) d_Md_neededNow_48 rfl 2 rfl ?_
          refine J_ishl (pc' := 50) d_Md_neededNow_49 rfl ?_
          refine J_ior (pc' := 51) d_Md_neededNow_50 rfl ?_
          refine J_istore_n (pc' := 52) (lv' := [(1, .int (v1 ||| (1 <<< (v2 &&& 31)))), (0, rf V 66), (2, .int v2)]) d_Md_neededNow_51 rfl rfl (by decide) rfl ?_
          refine J_aload_n (pc' := 53) d_Md_neededNow_52 rfl 1 rfl ?_
          refine J_iconst (pc' := 54) (v := 0) d_Md_neededNow_53 rfl ic_0 ?_
          refine J_putI (pc' := 57) d_Md_neededNow_54 rfl sh_66 fp_Md_270 rfl ?_
          refine J_pick [1, 0, 2] rfl ?_
          exact j_Md_neededNow_57 ih _ _ _ hf
def f_Md_neededNow (σ : Sg)  : Option (Int32 × Sg) :=
  (f_Md_findSent σ (σ.1 66 8) (-1)).bind fun σ2 =>
    f_Md_neededNow_13 FU σ2 0 0
set_option maxHeartbeats 4000000 in
theorem j_Md_neededNow {V : Vx} {X : Xx} {r : Int32} {σ' : Sg} (σ : Sg) (hf : f_Md_neededNow σ = some (r, σ')) : J V X (k2_rm 4 98) c_Md_neededNow R_Md 3 (some .int) (Qr V X (some (.int r)) σ') σ 0 [(0, rf V 66)] [] := by
  unfold f_Md_neededNow at hf
  refine J_aload_n (pc' := 1) d_Md_neededNow_0 rfl 0 rfl ?_
  refine J_aload_n (pc' := 2) d_Md_neededNow_1 rfl 0 rfl ?_
  refine J_getI (pc' := 5) d_Md_neededNow_2 rfl sh_66 fl_Md_114 rfl ?_
  refine J_iconst (pc' := 6) (v := (-1)) d_Md_neededNow_5 rfl ic_m1 ?_
  obtain ⟨σ2, hq1, hf⟩ := bpE hf
  refine J_V (pc' := 9) (as := [.int (σ.1 66 8), .int (-1)]) (rest := []) (st' := []) d_Md_neededNow_6 rfl sh_66 rfl mv_Md_288 (ct_Md_findSent V _ σ (σ.1 66 8) (-1) hq1) rfl rfl ⟨Nat.le_of_ble_eq_true rfl, Nat.le_of_ble_eq_true rfl⟩ ⟨rfl, rfl⟩ (Nat.le_of_ble_eq_true rfl) rfl ?_
  refine J_iconst (pc' := 10) (v := 0) d_Md_neededNow_9 rfl ic_0 ?_
  refine J_istore_n (pc' := 11) (lv' := [(1, .int 0), (0, rf V 66)]) d_Md_neededNow_10 rfl rfl (by decide) rfl ?_
  refine J_iconst (pc' := 12) (v := 0) d_Md_neededNow_11 rfl ic_0 ?_
  refine J_istore_n (pc' := 13) (lv' := [(2, .int 0), (1, .int 0), (0, rf V 66)]) d_Md_neededNow_12 rfl rfl (by decide) rfl ?_
  refine J_pick [2, 1, 0] rfl ?_
  exact j_Md_neededNow_13 FU _ _ _ hf
theorem ct_Md_neededNow (V : Vx) (l : Launch) (σ : Sg) {r : Int32} {σ' : Sg} (hf : f_Md_neededNow σ = some (r, σ')) : Ct V l y_Md_neededNow c_Md_neededNow 3 (some .int) (k2_rm 4 98) [rf V 66] σ (some (.int r)) σ' := Ct.ofJ (by decide +kernel) (Nat.le_of_ble_eq_true rfl) fun X _ => j_Md_neededNow _  hf
def f_Md_needed (σ : Sg)  : Option (Int32 × Sg) :=
  bd (f_Md_find σ) fun r3 σ2 =>
    bd (f_Md_neededNow σ2) fun r6 σ5 =>
      some (r6, σ5)
set_option maxHeartbeats 4000000 in
theorem j_Md_needed {V : Vx} {X : Xx} {r : Int32} {σ' : Sg} (σ : Sg) (hf : f_Md_needed σ = some (r, σ')) : J V X (k2_rm 5 120) c_Md_needed R_Md 1 (some .int) (Qr V X (some (.int r)) σ') σ 0 [(0, rf V 66)] [] := by
  unfold f_Md_needed at hf
  refine J_aload_n (pc' := 1) d_Md_needed_0 rfl 0 rfl ?_
  obtain ⟨r3, σ2, hq1, hf⟩ := bdE hf
  refine J_V (pc' := 4) (as := []) (rest := []) (st' := [.int r3]) d_Md_needed_1 rfl sh_66 rfl mv_Md_137 (ct_Md_find V _ σ hq1) rfl rfl ⟨Nat.le_of_ble_eq_true rfl, Nat.le_of_ble_eq_true rfl⟩ ⟨rfl, rfl⟩ (Nat.le_of_ble_eq_true rfl) rfl ?_
  refine J_pop (pc' := 5) d_Md_needed_4 rfl rfl ?_
  refine J_aload_n (pc' := 6) d_Md_needed_5 rfl 0 rfl ?_
  obtain ⟨r6, σ5, hq4, hf⟩ := bdE hf
  refine J_V (pc' := 9) (as := []) (rest := []) (st' := [.int r6]) d_Md_needed_6 rfl sh_66 rfl mv_Md_294 (ct_Md_neededNow V _ σ2 hq4) rfl rfl ⟨Nat.le_of_ble_eq_true rfl, Nat.le_of_ble_eq_true rfl⟩ ⟨rfl, rfl⟩ (Nat.le_of_ble_eq_true rfl) rfl ?_
  obtain ⟨rfl, rfl⟩ := resE hf
  exact J_iret d_Md_needed_9
theorem ct_Md_needed (V : Vx) (l : Launch) (σ : Sg) {r : Int32} {σ' : Sg} (hf : f_Md_needed σ = some (r, σ')) : Ct V l y_Md_needed c_Md_needed 1 (some .int) (k2_rm 5 120) [rf V 66] σ (some (.int r)) σ' := Ct.ofJ (by decide +kernel) (Nat.le_of_ble_eq_true rfl) fun X _ => j_Md_needed _  hf
def f_Md_findPegs_189 (k60 : Sg → Int32 → Int32 → Int32 → Option Sg) (σ : Sg) (v4 : Int32) (v5 : Int32) (v6 : Int32) : Option Sg :=
  k60 σ v4 v5 (v6 + 1)
set_option maxHeartbeats 4000000 in
theorem j_Md_findPegs_189 {V : Vx} {X : Xx} {σ' : Sg} {k60 : Sg → Int32 → Int32 → Int32 → Option Sg} (hk60 : ∀ (σ : Sg) (v4 : Int32) (v5 : Int32) (v6 : Int32), k60 σ v4 v5 v6 = some σ' → J V X (k2_rm 4 98) c_Md_findPegs R_Md 8 none (Qr V X none σ') σ 60 [(0, rf V 66), (4, .int v4), (5, .int v5), (6, .int v6)] []) (σ : Sg) (v4 : Int32) (v5 : Int32) (v6 : Int32) (hf : f_Md_findPegs_189 k60 σ v4 v5 v6 = some σ') : J V X (k2_rm 4 98) c_Md_findPegs R_Md 8 none (Qr V X none σ') σ 189 [(0, rf V 66), (4, .int v4), (5, .int v5), (6, .int v6)] [] := by
  unfold f_Md_findPegs_189 at hf
  refine J_iinc (pc' := 192) (j := 3) (v := 1) (lv' := [(6, .int (v6 + 1)), (0, rf V 66), (4, .int v4), (5, .int v5)]) d_Md_findPegs_189 rfl rfl ic_1 (by decide) rfl ?_
  refine J_goto (tgt := 60) d_Md_findPegs_192 (by decide) ?_
  refine J_pick [1, 2, 3, 0] rfl ?_
  exact hk60 _ _ _ _ hf
def f_Md_findPegs_159 (k60 : Sg → Int32 → Int32 → Int32 → Option Sg) (σ : Sg) (v4 : Int32) (v6 : Int32) (v7 : Int32) : Option Sg :=
  f_Md_findPegs_189 k60 (pI (pI (pI σ 66 26 (v6 / 10)) 66 27 (v6 - v6 / 10 * 10)) 66 28 ((pI (pI σ 66 26 (v6 / 10)) 66 27 (v6 - v6 / 10 * 10)).1 66 24)) v4 v7 v6
set_option maxHeartbeats 4000000 in
theorem j_Md_findPegs_159 {V : Vx} {X : Xx} {σ' : Sg} {k60 : Sg → Int32 → Int32 → Int32 → Option Sg} (hk60 : ∀ (σ : Sg) (v4 : Int32) (v5 : Int32) (v6 : Int32), k60 σ v4 v5 v6 = some σ' → J V X (k2_rm 4 98) c_Md_findPegs R_Md 8 none (Qr V X none σ') σ 60 [(0, rf V 66), (4, .int v4), (5, .int v5), (6, .int v6)] []) (σ : Sg) (v4 : Int32) (v6 : Int32) (v7 : Int32) (hf : f_Md_findPegs_159 k60 σ v4 v6 v7 = some σ') : J V X (k2_rm 4 98) c_Md_findPegs R_Md 8 none (Qr V X none σ') σ 159 [(0, rf V 66), (4, .int v4), (6, .int v6), (7, .int v7)] [] := by
  unfold f_Md_findPegs_159 at hf
  refine J_aload_n (pc' := 160) d_Md_findPegs_159 rfl 0 rfl ?_
  refine J_iload (pc' := 162) d_Md_findPegs_160 rfl 2 rfl ?_
  refine J_bipush (pc' := 164) (v := 10) d_Md_findPegs_162 rfl bc_10 ?_
  refine J_idiv (pc' := 165) d_Md_findPegs_164 rfl (by decide) ?_
  refine J_putI (pc' := 168) d_Md_findPegs_165 rfl sh_66 fp_Md_297 rfl ?_
  refine J_aload_n (pc' := 169) d_Md_findPegs_168 rfl 0 rfl ?_
  refine J_iload (pc' := 171) d_Md_findPegs_169 rfl 2 rfl ?_
  refine J_bipush (pc' := 173) (v := 10) d_Md_findPegs_171 rfl bc_10 ?_
  refine J_irem (pc' := 174) d_Md_findPegs_173 rfl (by decide) ?_
  refine J_putI (pc' := 177) d_Md_findPegs_174 rfl sh_66 fp_Md_300 rfl ?_
  refine J_aload_n (pc' := 178) d_Md_findPegs_177 rfl 0 rfl ?_
  refine J_aload_n (pc' := 179) d_Md_findPegs_178 rfl 0 rfl ?_
  refine J_getI (pc' := 182) d_Md_findPegs_179 rfl sh_66 fl_Md_270 rfl ?_
  refine J_putI (pc' := 185) d_Md_findPegs_182 rfl sh_66 fp_Md_303 rfl ?_
  refine J_iload (pc' := 187) d_Md_findPegs_185 rfl 3 rfl ?_
  refine J_istore (pc' := 189) (lv' := [(5, .int v7), (0, rf V 66), (4, .int v4), (6, .int v6), (7, .int v7)]) d_Md_findPegs_187 rfl (by decide) rfl ?_
  refine J_pick [1, 2, 0, 3] rfl ?_
  exact j_Md_findPegs_189 hk60 _ _ _ _ hf
def f_Md_findPegs_60 : Nat → Sg → Int32 → Int32 → Int32 → Option Sg
  | 0, _, _, _, _ => none
  | n + 1, σ, v4, v5, v6 =>
    if 100 ≤ v6 then
      some σ
    else
      gd (vin v4 54) (
        gd (vin (v4 + 1) 54) (
          (f_Md_findSent (pI (pI σ 73 v4.toNatClampNeg (v6 / 10)) 73 (v4 + 1).toNatClampNeg (v6 - v6 / 10 * 10)) (((pI (pI σ 73 v4.toNatClampNeg (v6 / 10)) 73 (v4 + 1).toNatClampNeg (v6 - v6 / 10 * 10)).1 66 8) + 1) (-1)).bind fun σ8 =>
            (f_Md_crossesWith σ8 (σ8.1 66 8)).bind fun r10 =>
              if (σ8.1 66 24) = (-1) then
                f_Md_findPegs_189 (f_Md_findPegs_60 n) σ8 v4 v5 v6
              else
                if (σ8.1 66 28) = (-1) then
                  f_Md_findPegs_159 (f_Md_findPegs_60 n) σ8 v4 v6 r10
                else
                  if (σ8.1 66 24) < (σ8.1 66 28) then
                    f_Md_findPegs_159 (f_Md_findPegs_60 n) σ8 v4 v6 r10
                  else
                    if (σ8.1 66 24) = (σ8.1 66 28) then
                      if v5 ≤ r10 then f_Md_findPegs_189 (f_Md_findPegs_60 n) σ8 v4 v5 v6 else f_Md_findPegs_159 (f_Md_findPegs_60 n) σ8 v4 v6 r10
                    else
                      f_Md_findPegs_189 (f_Md_findPegs_60 n) σ8 v4 v5 v6))
theorem f_Md_findPegs_60_s (n : Nat) (σ : Sg) (v4 : Int32) (v5 : Int32) (v6 : Int32) : f_Md_findPegs_60 (n + 1) σ v4 v5 v6 =
    if 100 ≤ v6 then
      some σ
    else
      gd (vin v4 54) (
        gd (vin (v4 + 1) 54) (
          (f_Md_findSent (pI (pI σ 73 v4.toNatClampNeg (v6 / 10)) 73 (v4 + 1).toNatClampNeg (v6 - v6 / 10 * 10)) (((pI (pI σ 73 v4.toNatClampNeg (v6 / 10)) 73 (v4 + 1).toNatClampNeg (v6 - v6 / 10 * 10)).1 66 8) + 1) (-1)).bind fun σ8 =>
            (f_Md_crossesWith σ8 (σ8.1 66 8)).bind fun r10 =>
              if (σ8.1 66 24) = (-1) then
                f_Md_findPegs_189 (f_Md_findPegs_60 n) σ8 v4 v5 v6
              else
                if (σ8.1 66 28) = (-1) then
                  f_Md_findPegs_159 (f_Md_findPegs_60 n) σ8 v4 v6 r10
                else
                  if (σ8.1 66 24) < (σ8.1 66 28) then
                    f_Md_findPegs_159 (f_Md_findPegs_60 n) σ8 v4 v6 r10
                  else
                    if (σ8.1 66 24) = (σ8.1 66 28) then
                      if v5 ≤ r10 then f_Md_findPegs_189 (f_Md_findPegs_60 n) σ8 v4 v5 v6 else f_Md_findPegs_159 (f_Md_findPegs_60 n) σ8 v4 v6 r10
                    else
                      f_Md_findPegs_189 (f_Md_findPegs_60 n) σ8 v4 v5 v6)) := rfl
set_option maxHeartbeats 4000000 in
theorem j_Md_findPegs_60 {V : Vx} {X : Xx} {σ' : Sg}  : ∀ (n : Nat) (σ : Sg) (v4 : Int32) (v5 : Int32) (v6 : Int32), f_Md_findPegs_60 n σ v4 v5 v6 = some σ' → J V X (k2_rm 4 98) c_Md_findPegs R_Md 8 none (Qr V X none σ') σ 60 [(0, rf V 66), (4, .int v4), (5, .int v5), (6, .int v6)] [] := by
  intro n
  induction n with
  | zero => intro σ v4 v5 v6 hf; exact nn hf
  | succ n ih =>
    intro σ v4 v5 v6 hf
    rw [f_Md_findPegs_60_s] at hf
    refine J_iload (pc' := 62) d_Md_findPegs_60 rfl 3 rfl ?_
    refine J_bipush (pc' := 64) (v := 100) d_Md_findPegs_62 rfl bc_100 ?_
    refine J_icmp_ge (pc' := 67) (tgt := 195) d_Md_findPegs_64 rfl (by decide) (fun hc4 => ?_) (fun hc4 => ?_)
    · have hf := brT hc4 hf
      obtain rfl := Option.some.inj hf
      exact J_vret d_Md_findPegs_195
    · have hf := brF hc4 hf
      refine J_aload_n (pc' := 68) d_Md_findPegs_67 rfl 0 rfl ?_
      refine J_getR (pc' := 71) d_Md_findPegs_68 rfl sh_66 fl_Md_28 rfl ?_
      refine J_iload (pc' := 73) d_Md_findPegs_71 rfl 1 rfl ?_
      refine J_iload (pc' := 75) d_Md_findPegs_73 rfl 3 rfl ?_
      refine J_bipush (pc' := 77) (v := 10) d_Md_findPegs_75 rfl bc_10 ?_
      refine J_idiv (pc' := 78) d_Md_findPegs_77 rfl (by decide) ?_
      obtain ⟨hg5, hf⟩ := gdE hf
      refine J_ias (pc' := 79) d_Md_findPegs_78 rfl sh_73 (vinP hg5) ?_
      refine J_aload_n (pc' := 80) d_Md_findPegs_79 rfl 0 rfl ?_
      refine J_getR (pc' := 83) d_Md_findPegs_80 rfl sh_66 fl_Md_28 rfl ?_
      refine J_iload (pc' := 85) d_Md_findPegs_83 rfl 1 rfl ?_
      refine J_iconst (pc' := 86) (v := 1) d_Md_findPegs_85 rfl ic_1 ?_
      refine J_iadd (pc' := 87) d_Md_findPegs_86 rfl ?_
      refine J_iload (pc' := 89) d_Md_findPegs_87 rfl 3 rfl ?_
      refine J_bipush (pc' := 91) (v := 10) d_Md_findPegs_89 rfl bc_10 ?_
      refine J_irem (pc' := 92) d_Md_findPegs_91 rfl (by decide) ?_
      obtain ⟨hg6, hf⟩ := gdE hf
      refine J_ias (pc' := 93) d_Md_findPegs_92 rfl sh_73 (vinP hg6) ?_
      refine J_aload_n (pc' := 94) d_Md_findPegs_93 rfl 0 rfl ?_
      refine J_aload_n (pc' := 95) d_Md_findPegs_94 rfl 0 rfl ?_
      refine J_getI (pc' := 98) d_Md_findPegs_95 rfl sh_66 fl_Md_114 rfl ?_
      refine J_iconst (pc' := 99) (v := 1) d_Md_findPegs_98 rfl ic_1 ?_
      refine J_iadd (pc' := 100) d_Md_findPegs_99 rfl ?_
      refine J_iconst (pc' := 101) (v := (-1)) d_Md_findPegs_100 rfl ic_m1 ?_
      obtain ⟨σ8, hq7, hf⟩ := bpE hf
      refine J_V (pc' := 104) (as := [.int (((pI (pI σ 73 v4.toNatClampNeg (v6 / 10)) 73 (v4 + 1).toNatClampNeg (v6 - v6 / 10 * 10)).1 66 8) + 1), .int (-1)]) (rest := []) (st' := []) d_Md_findPegs_101 rfl sh_66 rfl mv_Md_288 (ct_Md_findSent V _ (pI (pI σ 73 v4.toNatClampNeg (v6 / 10)) 73 (v4 + 1).toNatClampNeg (v6 - v6 / 10 * 10)) (((pI (pI σ 73 v4.toNatClampNeg (v6 / 10)) 73 (v4 + 1).toNatClampNeg (v6 - v6 / 10 * 10)).1 66 8) + 1) (-1) hq7) rfl rfl ⟨Nat.le_of_ble_eq_true rfl, Nat.le_of_ble_eq_true rfl⟩ ⟨rfl, rfl⟩ (Nat.le_of_ble_eq_true rfl) rfl ?_
      refine J_aload_n (pc' := 105) d_Md_findPegs_104 rfl 0 rfl ?_
      refine J_aload_n (pc' := 106) d_Md_findPegs_105 rfl 0 rfl ?_
      refine J_getI (pc' := 109) d_Md_findPegs_106 rfl sh_66 fl_Md_114 rfl ?_
      obtain ⟨r10, hq9, hf⟩ := bpE hf
      refine J_V (pc' := 112) (as := [.int (σ8.1 66 8)]) (rest := []) (st' := [.int r10]) d_Md_findPegs_109 rfl sh_66 rfl mv_Md_161 (ct_Md_crossesWith V _ σ8 (σ8.1 66 8) hq9) rfl rfl ⟨Nat.le_of_ble_eq_true rfl, Nat.le_of_ble_eq_true rfl⟩ ⟨rfl, rfl⟩ (Nat.le_of_ble_eq_true rfl) rfl ?_
      refine J_istore (pc' := 114) (lv' := [(7, .int r10), (0, rf V 66), (4, .int v4), (5, .int v5), (6, .int v6)]) d_Md_findPegs_112 rfl (by decide) rfl ?_
      refine J_aload_n (pc' := 115) d_Md_findPegs_114 rfl 1 rfl ?_
      refine J_getI (pc' := 118) d_Md_findPegs_115 rfl sh_66 fl_Md_270 rfl ?_
      refine J_iconst (pc' := 119) (v := (-1)) d_Md_findPegs_118 rfl ic_m1 ?_
      refine J_icmp_eq (pc' := 122) (tgt := 189) d_Md_findPegs_119 rfl (by decide) (fun hc11 => ?_) (fun hc11 => ?_)
      · have hf := brT hc11 hf
        refine J_pick [1, 2, 3, 4] rfl ?_
        exact j_Md_findPegs_189 ih _ _ _ _ hf
      · have hf := brF hc11 hf
        refine J_aload_n (pc' := 123) d_Md_findPegs_122 rfl 1 rfl ?_
        refine J_getI (pc' := 126) d_Md_findPegs_123 rfl sh_66 fl_Md_303 rfl ?_
        refine J_iconst (pc' := 127) (v := (-1)) d_Md_findPegs_126 rfl ic_m1 ?_
        refine J_icmp_eq (pc' := 130) (tgt := 159) d_Md_findPegs_127 rfl (by decide) (fun hc12 => ?_) (fun hc12 => ?_)
        · have hf := brT hc12 hf
          refine J_pick [1, 2, 4, 0] rfl ?_
          exact j_Md_findPegs_159 ih _ _ _ _ hf
        · have hf := brF hc12 hf
          refine J_aload_n (pc' := 131) d_Md_findPegs_130 rfl 1 rfl ?_
          refine J_getI (pc' := 134) d_Md_findPegs_131 rfl sh_66 fl_Md_270 rfl ?_
          refine J_aload_n (pc' := 135) d_Md_findPegs_134 rfl 1 rfl ?_
          refine J_getI (pc' := 138) d_Md_findPegs_135 rfl sh_66 fl_Md_303 rfl ?_
          refine J_icmp_lt (pc' := 141) (tgt := 159) d_Md_findPegs_138 rfl (by decide) (fun hc13 => ?_) (fun hc13 => ?_)
          · have hf := brT hc13 hf
            refine J_pick [1, 2, 4, 0] rfl ?_
            exact j_Md_findPegs_159 ih _ _ _ _ hf
          · have hf := brF hc13 hf
            refine J_aload_n (pc' := 142) d_Md_findPegs_141 rfl 1 rfl ?_
            refine J_getI (pc' := 145) d_Md_findPegs_142 rfl sh_66 fl_Md_270 rfl ?_
            refine J_aload_n (pc' := 146) d_Md_findPegs_145 rfl 1 rfl ?_
            refine J_getI (pc' := 149) d_Md_findPegs_146 rfl sh_66 fl_Md_303 rfl ?_
            refine J_icmp_ne (pc' := 152) (tgt := 189) d_Md_findPegs_149 rfl (by decide) (fun hc14 => ?_) (fun hc14 => ?_)
            · have hf := brF hc14 hf
              refine J_pick [1, 2, 3, 4] rfl ?_
              exact j_Md_findPegs_189 ih _ _ _ _ hf
            · have hf := brT hc14 hf
              refine J_iload (pc' := 154) d_Md_findPegs_152 rfl 0 rfl ?_
              refine J_iload (pc' := 156) d_Md_findPegs_154 rfl 3 rfl ?_
              refine J_icmp_ge (pc' := 159) (tgt := 189) d_Md_findPegs_156 rfl (by decide) (fun hc15 => ?_) (fun hc15 => ?_)
              · have hf := brT hc15 hf
                refine J_pick [1, 2, 3, 4] rfl ?_
                exact j_Md_findPegs_189 ih _ _ _ _ hf
              · have hf := brF hc15 hf
                refine J_pick [1, 2, 4, 0] rfl ?_
                exact j_Md_findPegs_159 ih _ _ _ _ hf
def f_Md_findPegs (σ : Sg) (v1 : Int32) (v2 : Int32) (v3 : Int32) : Option Sg :=
  gd (vin ((6 * (σ.1 66 8)) + 2) 54) (
    gd (vin ((6 * (σ.1 66 8)) + 3) 54) (
      gd (vin ((6 * (σ.1 66 8)) + 4) 54) (
        f_Md_findPegs_60 FU (pI (pI (pI (pI (pI (pI σ 73 ((6 * (σ.1 66 8)) + 2).toNatClampNeg v1) 73 ((6 * (σ.1 66 8)) + 3).toNatClampNeg v2) 73 ((6 * (σ.1 66 8)) + 4).toNatClampNeg v3) 66 26 (-1)) 66 27 (-1)) 66 28 (-1)) (6 * (σ.1 66 8)) 0 0)))
set_option maxHeartbeats 4000000 in
theorem j_Md_findPegs {V : Vx} {X : Xx} {σ' : Sg} (σ : Sg) (v1 : Int32) (v2 : Int32) (v3 : Int32) (hf : f_Md_findPegs σ v1 v2 v3 = some σ') : J V X (k2_rm 4 98) c_Md_findPegs R_Md 8 none (Qr V X none σ') σ 0 [(0, rf V 66), (1, .int v1), (2, .int v2), (3, .int v3)] [] := by
  unfold f_Md_findPegs at hf
  refine J_bipush (pc' := 2) (v := 6) d_Md_findPegs_0 rfl bc_6 ?_
  refine J_aload_n (pc' := 3) d_Md_findPegs_2 rfl 0 rfl ?_
  refine J_getI (pc' := 6) d_Md_findPegs_3 rfl sh_66 fl_Md_114 rfl ?_
  refine J_imul (pc' := 7) d_Md_findPegs_6 rfl ?_
  refine J_istore (pc' := 9) (lv' := [(4, .int (6 * (σ.1 66 8))), (0, rf V 66), (1, .int v1), (2, .int v2), (3, .int v3)]) d_Md_findPegs_7 rfl (by decide) rfl ?_
  refine J_aload_n (pc' := 10) d_Md_findPegs_9 rfl 1 rfl ?_
  refine J_getR (pc' := 13) d_Md_findPegs_10 rfl sh_66 fl_Md_28 rfl ?_
  refine J_iload (pc' := 15) d_Md_findPegs_13 rfl 0 rfl ?_
  refine J_iconst (pc' := 16) (v := 2) d_Md_findPegs_15 rfl ic_2 ?_
  refine J_iadd (pc' := 17) d_Md_findPegs_16 rfl ?_
  refine J_iload_n (pc' := 18) d_Md_findPegs_17 rfl 2 rfl ?_
  obtain ⟨hg1, hf⟩ := gdE hf
  refine J_ias (pc' := 19) d_Md_findPegs_18 rfl sh_73 (vinP hg1) ?_
  refine J_aload_n (pc' := 20) d_Md_findPegs_19 rfl 1 rfl ?_
  refine J_getR (pc' := 23) d_Md_findPegs_20 rfl sh_66 fl_Md_28 rfl ?_
  refine J_iload (pc' := 25) d_Md_findPegs_23 rfl 0 rfl ?_
  refine J_iconst (pc' := 26) (v := 3) d_Md_findPegs_25 rfl ic_3 ?_
  refine J_iadd (pc' := 27) d_Md_findPegs_26 rfl ?_
  refine J_iload_n (pc' := 28) d_Md_findPegs_27 rfl 3 rfl ?_
  obtain ⟨hg2, hf⟩ := gdE hf
  refine J_ias (pc' := 29) d_Md_findPegs_28 rfl sh_73 (vinP hg2) ?_
  refine J_aload_n (pc' := 30) d_Md_findPegs_29 rfl 1 rfl ?_
  refine J_getR (pc' := 33) d_Md_findPegs_30 rfl sh_66 fl_Md_28 rfl ?_
  refine J_iload (pc' := 35) d_Md_findPegs_33 rfl 0 rfl ?_
  refine J_iconst (pc' := 36) (v := 4) d_Md_findPegs_35 rfl ic_4 ?_
  refine J_iadd (pc' := 37) d_Md_findPegs_36 rfl ?_
  refine J_iload_n (pc' := 38) d_Md_findPegs_37 rfl 4 rfl ?_
  obtain ⟨hg3, hf⟩ := gdE hf
  refine J_ias (pc' := 39) d_Md_findPegs_38 rfl sh_73 (vinP hg3) ?_
  refine J_aload_n (pc' := 40) d_Md_findPegs_39 rfl 1 rfl ?_
  refine J_iconst (pc' := 41) (v := (-1)) d_Md_findPegs_40 rfl ic_m1 ?_
  refine J_putI (pc' := 44) d_Md_findPegs_41 rfl sh_66 fp_Md_297 rfl ?_
  refine J_aload_n (pc' := 45) d_Md_findPegs_44 rfl 1 rfl ?_
  refine J_iconst (pc' := 46) (v := (-1)) d_Md_findPegs_45 rfl ic_m1 ?_
  refine J_putI (pc' := 49) d_Md_findPegs_46 rfl sh_66 fp_Md_300 rfl ?_
  refine J_aload_n (pc' := 50) d_Md_findPegs_49 rfl 1 rfl ?_
  refine J_iconst (pc' := 51) (v := (-1)) d_Md_findPegs_50 rfl ic_m1 ?_
  refine J_putI (pc' := 54) d_Md_findPegs_51 rfl sh_66 fp_Md_303 rfl ?_
  refine J_iconst (pc' := 55) (v := 0) d_Md_findPegs_54 rfl ic_0 ?_
  refine J_istore (pc' := 57) (lv' := [(5, .int 0), (4, .int (6 * (σ.1 66 8))), (0, rf V 66), (1, .int v1), (2, .int v2), (3, .int v3)]) d_Md_findPegs_55 rfl (by decide) rfl ?_
  refine J_iconst (pc' := 58) (v := 0) d_Md_findPegs_57 rfl ic_0 ?_
  refine J_istore (pc' := 60) (lv' := [(6, .int 0), (5, .int 0), (4, .int (6 * (σ.1 66 8))), (0, rf V 66), (1, .int v1), (2, .int v2), (3, .int v3)]) d_Md_findPegs_58 rfl (by decide) rfl ?_
  refine J_pick [3, 2, 1, 0] rfl ?_
  exact j_Md_findPegs_60 FU _ _ _ _ hf
theorem ct_Md_findPegs (V : Vx) (l : Launch) (σ : Sg) (v1 : Int32) (v2 : Int32) (v3 : Int32) {σ' : Sg} (hf : f_Md_findPegs σ v1 v2 v3 = some σ') : Ct V l y_Md_findPegs c_Md_findPegs 8 none (k2_rm 4 98) [rf V 66, .int v1, .int v2, .int v3] σ none σ' := Ct.ofJ (by decide +kernel) (Nat.le_of_ble_eq_true rfl) fun X _ => j_Md_findPegs _ v1 v2 v3 hf
def f_Md_pegs (σ : Sg) (v1 : Int32) (v2 : Int32) (v3 : Int32) (v4 : Int32) : Option (Int32 × Sg) :=
  if (f_Md_in v1.toInt64 0 2) = 0 then
    some ((-2), σ)
  else
    if (f_Md_isFigure v2) = 0 then
      some ((-2), σ)
    else
      if (f_Md_isFigure v3) = 0 then
        some ((-2), σ)
      else
        if (f_Md_in v4.toInt64 0 2) = 0 then
          some ((-2), σ)
        else
          bd (f_Md_find σ) fun r7 σ6 =>
            (f_Md_findPegs σ6 v1 v2 v3).bind fun σ9 =>
              if v4 = 0 then some (σ9.1 66 26, σ9) else if v4 = 1 then some (σ9.1 66 27, σ9) else some (σ9.1 66 28, σ9)
set_option maxHeartbeats 4000000 in
theorem j_Md_pegs {V : Vx} {X : Xx} {r : Int32} {σ' : Sg} (σ : Sg) (v1 : Int32) (v2 : Int32) (v3 : Int32) (v4 : Int32) (hf : f_Md_pegs σ v1 v2 v3 v4 = some (r, σ')) : J V X (k2_rm 5 125) c_Md_pegs R_Md 5 (some .int) (Qr V X (some (.int r)) σ') σ 0 [(0, rf V 66), (1, .int v1), (2, .int v2), (3, .int v3), (4, .int v4)] [] := by
  unfold f_Md_pegs at hf
  refine J_iload_n (pc' := 1) d_Md_pegs_0 rfl 1 rfl ?_
  refine J_i2l (pc' := 2) d_Md_pegs_1 rfl ?_
  refine J_lconst (pc' := 3) (v := 0) d_Md_pegs_2 rfl lc_0 ?_
  refine J_ldc2 (pc' := 6) (v := 2) d_Md_pegs_3 rfl cw_Md_91 ?_
  refine J_S (pc' := 9) (as := [.long v1.toInt64, .long 0, .long 2]) (rest := []) (st' := [.int (f_Md_in v1.toInt64 0 2)]) d_Md_pegs_6 rfl ms_Md_73 (ct_Md_in V _ σ v1.toInt64 0 2) rfl rfl ⟨Nat.le_of_ble_eq_true rfl, Nat.le_of_ble_eq_true rfl⟩ ⟨rfl, rfl⟩ (Nat.le_of_ble_eq_true rfl) rfl ?_
  refine J_if_eq (pc' := 12) (tgt := 39) d_Md_pegs_9 rfl (by decide) (fun hc1 => ?_) (fun hc1 => ?_)
  · have hf := brT hc1 hf
    refine J_bipush (pc' := 41) (v := (-2)) d_Md_pegs_39 rfl bc_m2 ?_
    obtain ⟨rfl, rfl⟩ := resE hf
    exact J_iret d_Md_pegs_41
  · have hf := brF hc1 hf
    refine J_iload_n (pc' := 13) d_Md_pegs_12 rfl 2 rfl ?_
    refine J_S (pc' := 16) (as := [.int v2]) (rest := []) (st' := [.int (f_Md_isFigure v2)]) d_Md_pegs_13 rfl ms_Md_189 (ct_Md_isFigure V _ σ v2) rfl rfl ⟨Nat.le_of_ble_eq_true rfl, Nat.le_of_ble_eq_true rfl⟩ ⟨rfl, rfl⟩ (Nat.le_of_ble_eq_true rfl) rfl ?_
    refine J_if_eq (pc' := 19) (tgt := 39) d_Md_pegs_16 rfl (by decide) (fun hc2 => ?_) (fun hc2 => ?_)
    · have hf := brT hc2 hf
      refine J_bipush (pc' := 41) (v := (-2)) d_Md_pegs_39 rfl bc_m2 ?_
      obtain ⟨rfl, rfl⟩ := resE hf
      exact J_iret d_Md_pegs_41
    · have hf := brF hc2 hf
      refine J_iload_n (pc' := 20) d_Md_pegs_19 rfl 3 rfl ?_
      refine J_S (pc' := 23) (as := [.int v3]) (rest := []) (st' := [.int (f_Md_isFigure v3)]) d_Md_pegs_20 rfl ms_Md_189 (ct_Md_isFigure V _ σ v3) rfl rfl ⟨Nat.le_of_ble_eq_true rfl, Nat.le_of_ble_eq_true rfl⟩ ⟨rfl, rfl⟩ (Nat.le_of_ble_eq_true rfl) rfl ?_
      refine J_if_eq (pc' := 26) (tgt := 39) d_Md_pegs_23 rfl (by decide) (fun hc3 => ?_) (fun hc3 => ?_)
      · have hf := brT hc3 hf
        refine J_bipush (pc' := 41) (v := (-2)) d_Md_pegs_39 rfl bc_m2 ?_
        obtain ⟨rfl, rfl⟩ := resE hf
        exact J_iret d_Md_pegs_41
      · have hf := brF hc3 hf
        refine J_iload (pc' := 28) d_Md_pegs_26 rfl 4 rfl ?_
        refine J_i2l (pc' := 29) d_Md_pegs_28 rfl ?_
        refine J_lconst (pc' := 30) (v := 0) d_Md_pegs_29 rfl lc_0 ?_
        refine J_ldc2 (pc' := 33) (v := 2) d_Md_pegs_30 rfl cw_Md_91 ?_
        refine J_S (pc' := 36) (as := [.long v4.toInt64, .long 0, .long 2]) (rest := []) (st' := [.int (f_Md_in v4.toInt64 0 2)]) d_Md_pegs_33 rfl ms_Md_73 (ct_Md_in V _ σ v4.toInt64 0 2) rfl rfl ⟨Nat.le_of_ble_eq_true rfl, Nat.le_of_ble_eq_true rfl⟩ ⟨rfl, rfl⟩ (Nat.le_of_ble_eq_true rfl) rfl ?_
        refine J_if_ne (pc' := 39) (tgt := 42) d_Md_pegs_36 rfl (by decide) (fun hc4 => ?_) (fun hc4 => ?_)
        · have hf := brF hc4 hf
          refine J_aload_n (pc' := 43) d_Md_pegs_42 rfl 0 rfl ?_
          obtain ⟨r7, σ6, hq5, hf⟩ := bdE hf
          refine J_V (pc' := 46) (as := []) (rest := []) (st' := [.int r7]) d_Md_pegs_43 rfl sh_66 rfl mv_Md_137 (ct_Md_find V _ σ hq5) rfl rfl ⟨Nat.le_of_ble_eq_true rfl, Nat.le_of_ble_eq_true rfl⟩ ⟨rfl, rfl⟩ (Nat.le_of_ble_eq_true rfl) rfl ?_
          refine J_pop (pc' := 47) d_Md_pegs_46 rfl rfl ?_
          refine J_aload_n (pc' := 48) d_Md_pegs_47 rfl 0 rfl ?_
          refine J_iload_n (pc' := 49) d_Md_pegs_48 rfl 1 rfl ?_
          refine J_iload_n (pc' := 50) d_Md_pegs_49 rfl 2 rfl ?_
          refine J_iload_n (pc' := 51) d_Md_pegs_50 rfl 3 rfl ?_
          obtain ⟨σ9, hq8, hf⟩ := bpE hf
          refine J_V (pc' := 54) (as := [.int v1, .int v2, .int v3]) (rest := []) (st' := []) d_Md_pegs_51 rfl sh_66 rfl mv_Md_306 (ct_Md_findPegs V _ σ6 v1 v2 v3 hq8) rfl rfl ⟨Nat.le_of_ble_eq_true rfl, Nat.le_of_ble_eq_true rfl⟩ ⟨rfl, rfl⟩ (Nat.le_of_ble_eq_true rfl) rfl ?_
          refine J_iload (pc' := 56) d_Md_pegs_54 rfl 4 rfl ?_
          refine J_if_ne (pc' := 59) (tgt := 66) d_Md_pegs_56 rfl (by decide) (fun hc10 => ?_) (fun hc10 => ?_)
          · have hf := brF hc10 hf
            refine J_iload (pc' := 68) d_Md_pegs_66 rfl 4 rfl ?_
            refine J_iconst (pc' := 69) (v := 1) d_Md_pegs_68 rfl ic_1 ?_
            refine J_icmp_ne (pc' := 72) (tgt := 79) d_Md_pegs_69 rfl (by decide) (fun hc11 => ?_) (fun hc11 => ?_)
            · have hf := brF hc11 hf
              refine J_aload_n (pc' := 80) d_Md_pegs_79 rfl 0 rfl ?_
              refine J_getI (pc' := 83) d_Md_pegs_80 rfl sh_66 fl_Md_303 rfl ?_
              obtain ⟨rfl, rfl⟩ := resE hf
              exact J_iret d_Md_pegs_83
            · have hf := brT hc11 hf
              refine J_aload_n (pc' := 73) d_Md_pegs_72 rfl 0 rfl ?_
              refine J_getI (pc' := 76) d_Md_pegs_73 rfl sh_66 fl_Md_300 rfl ?_
              refine J_goto (tgt := 83) d_Md_pegs_76 (by decide) ?_
              obtain ⟨rfl, rfl⟩ := resE hf
              exact J_iret d_Md_pegs_83
          · have hf := brT hc10 hf
            refine J_aload_n (pc' := 60) d_Md_pegs_59 rfl 0 rfl ?_
            refine J_getI (pc' := 63) d_Md_pegs_60 rfl sh_66 fl_Md_297 rfl ?_
            refine J_goto (tgt := 83) d_Md_pegs_63 (by decide) ?_
            obtain ⟨rfl, rfl⟩ := resE hf
            exact J_iret d_Md_pegs_83
        · have hf := brT hc4 hf
          refine J_bipush (pc' := 41) (v := (-2)) d_Md_pegs_39 rfl bc_m2 ?_
          obtain ⟨rfl, rfl⟩ := resE hf
          exact J_iret d_Md_pegs_41
theorem ct_Md_pegs (V : Vx) (l : Launch) (σ : Sg) (v1 : Int32) (v2 : Int32) (v3 : Int32) (v4 : Int32) {r : Int32} {σ' : Sg} (hf : f_Md_pegs σ v1 v2 v3 v4 = some (r, σ')) : Ct V l y_Md_pegs c_Md_pegs 5 (some .int) (k2_rm 5 125) [rf V 66, .int v1, .int v2, .int v3, .int v4] σ (some (.int r)) σ' := Ct.ofJ (by decide +kernel) (Nat.le_of_ble_eq_true rfl) fun X _ => j_Md_pegs _ v1 v2 v3 v4 hf
def f_Md_findBalances_117 (k27 : Sg → Int32 → Option Sg) (σ : Sg) (v1 : Int32) : Option Sg :=
  k27 σ (v1 + 1)
set_option maxHeartbeats 4000000 in
theorem j_Md_findBalances_117 {V : Vx} {X : Xx} {σ' : Sg} {k27 : Sg → Int32 → Option Sg} (hk27 : ∀ (σ : Sg) (v1 : Int32), k27 σ v1 = some σ' → J V X (k2_rm 4 91) c_Md_findBalances R_Md 4 none (Qr V X none σ') σ 27 [(0, rf V 66), (1, .int v1)] []) (σ : Sg) (v1 : Int32) (hf : f_Md_findBalances_117 k27 σ v1 = some σ') : J V X (k2_rm 4 91) c_Md_findBalances R_Md 4 none (Qr V X none σ') σ 117 [(0, rf V 66), (1, .int v1)] [] := by
  unfold f_Md_findBalances_117 at hf
  refine J_iinc (pc' := 120) (j := 1) (v := 1) (lv' := [(1, .int (v1 + 1)), (0, rf V 66)]) d_Md_findBalances_117 rfl rfl ic_1 (by decide) rfl ?_
  refine J_goto (tgt := 27) d_Md_findBalances_120 (by decide) ?_
  refine J_pick [1, 0] rfl ?_
  exact hk27 _ _ hf
def f_Md_findBalances_27 : Nat → Sg → Int32 → Option Sg
  | 0, _, _ => none
  | n + 1, σ, v1 =>
    if (σ.1 66 14) ≤ v1 then
      some σ
    else
      (f_Md_counts σ v1).bind fun r7 =>
        if r7 = 0 then
          f_Md_findBalances_117 (f_Md_findBalances_27 n) σ v1
        else
          gd (vin (5 * v1) 100) (
            gd (vin ((5 * v1) + 1) 100) (
              gd (vin ((5 * v1) + 3) 100) (
                (f_Md_costs σ (σ.1 76 (5 * v1).toNatClampNeg) (σ.1 76 ((5 * v1) + 1).toNatClampNeg) (σ.1 76 ((5 * v1) + 3).toNatClampNeg)).bind fun r13 =>
                  gd (vin ((5 * v1) + 4) 100) (
                    gd (vin (σ.1 76 ((5 * v1) + 4).toNatClampNeg) 5) (
                      gd (vin (σ.1 76 ((5 * v1) + 4).toNatClampNeg) 5) (
                        gd (vin ((6 * (σ.1 76 (5 * v1).toNatClampNeg)) + 5) 54) (
                          gd (vin ((pI σ 83 (σ.1 76 ((5 * v1) + 4).toNatClampNeg).toNatClampNeg ((σ.1 83 (σ.1 76 ((5 * v1) + 4).toNatClampNeg).toNatClampNeg) - r13)).1 73 ((6 * (σ.1 76 (5 * v1).toNatClampNeg)) + 5).toNatClampNeg) 5) (
                            gd (vin ((pI σ 83 (σ.1 76 ((5 * v1) + 4).toNatClampNeg).toNatClampNeg ((σ.1 83 (σ.1 76 ((5 * v1) + 4).toNatClampNeg).toNatClampNeg) - r13)).1 73 ((6 * (σ.1 76 (5 * v1).toNatClampNeg)) + 5).toNatClampNeg) 5) (
                              f_Md_findBalances_117 (f_Md_findBalances_27 n) (pI (pI σ 83 (σ.1 76 ((5 * v1) + 4).toNatClampNeg).toNatClampNeg ((σ.1 83 (σ.1 76 ((5 * v1) + 4).toNatClampNeg).toNatClampNeg) - r13)) 83 ((pI σ 83 (σ.1 76 ((5 * v1) + 4).toNatClampNeg).toNatClampNeg ((σ.1 83 (σ.1 76 ((5 * v1) + 4).toNatClampNeg).toNatClampNeg) - r13)).1 73 ((6 * (σ.1 76 (5 * v1).toNatClampNeg)) + 5).toNatClampNeg).toNatClampNeg (((pI σ 83 (σ.1 76 ((5 * v1) + 4).toNatClampNeg).toNatClampNeg ((σ.1 83 (σ.1 76 ((5 * v1) + 4).toNatClampNeg).toNatClampNeg) - r13)).1 83 ((pI σ 83 (σ.1 76 ((5 * v1) + 4).toNatClampNeg).toNatClampNeg ((σ.1 83 (σ.1 76 ((5 * v1) + 4).toNatClampNeg).toNatClampNeg) - r13)).1 73 ((6 * (σ.1 76 (5 * v1).toNatClampNeg)) + 5).toNatClampNeg).toNatClampNeg) + r13)) v1)))))))))
theorem f_Md_findBalances_27_s (n : Nat) (σ : Sg) (v1 : Int32) : f_Md_findBalances_27 (n + 1) σ v1 =
    if (σ.1 66 14) ≤ v1 then
      some σ
    else
      (f_Md_counts σ v1).bind fun r7 =>
        if r7 = 0 then
          f_Md_findBalances_117 (f_Md_findBalances_27 n) σ v1
        else
          gd (vin (5 * v1) 100) (
            gd (vin ((5 * v1) + 1) 100) (
              gd (vin ((5 * v1) + 3) 100) (
                (f_Md_costs σ (σ.1 76 (5 * v1).toNatClampNeg) (σ.1 76 ((5 * v1) + 1).toNatClampNeg) (σ.1 76 ((5 * v1) + 3).toNatClampNeg)).bind fun r13 =>
                  gd (vin ((5 * v1) + 4) 100) (
                    gd (vin (σ.1 76 ((5 * v1) + 4).toNatClampNeg) 5) (
                      gd (vin (σ.1 76 ((5 * v1) + 4).toNatClampNeg) 5) (
                        gd (vin ((6 * (σ.1 76 (5 * v1).toNatClampNeg)) + 5) 54) (
                          gd (vin ((pI σ 83 (σ.1 76 ((5 * v1) + 4).toNatClampNeg).toNatClampNeg ((σ.1 83 (σ.1 76 ((5 * v1) + 4).toNatClampNeg).toNatClampNeg) - r13)).1 73 ((6 * (σ.1 76 (5 * v1).toNatClampNeg)) + 5).toNatClampNeg) 5) (
                            gd (vin ((pI σ 83 (σ.1 76 ((5 * v1) + 4).toNatClampNeg).toNatClampNeg ((σ.1 83 (σ.1 76 ((5 * v1) + 4).toNatClampNeg).toNatClampNeg) - r13)).1 73 ((6 * (σ.1 76 (5 * v1).toNatClampNeg)) + 5).toNatClampNeg) 5) (
                              f_Md_findBalances_117 (f_Md_findBalances_27 n) (pI (pI σ 83 (σ.1 76 ((5 * v1) + 4).toNatClampNeg).toNatClampNeg ((σ.1 83 (σ.1 76 ((5 * v1) + 4).toNatClampNeg).toNatClampNeg) - r13)) 83 ((pI σ 83 (σ.1 76 ((5 * v1) + 4).toNatClampNeg).toNatClampNeg ((σ.1 83 (σ.1 76 ((5 * v1) + 4).toNatClampNeg).toNatClampNeg) - r13)).1 73 ((6 * (σ.1 76 (5 * v1).toNatClampNeg)) + 5).toNatClampNeg).toNatClampNeg (((pI σ 83 (σ.1 76 ((5 * v1) + 4).toNatClampNeg).toNatClampNeg ((σ.1 83 (σ.1 76 ((5 * v1) + 4).toNatClampNeg).toNatClampNeg) - r13)).1 83 ((pI σ 83 (σ.1 76 ((5 * v1) + 4).toNatClampNeg).toNatClampNeg ((σ.1 83 (σ.1 76 ((5 * v1) + 4).toNatClampNeg).toNatClampNeg) - r13)).1 73 ((6 * (σ.1 76 (5 * v1).toNatClampNeg)) + 5).toNatClampNeg).toNatClampNeg) + r13)) v1))))))))) := rfl
set_option maxHeartbeats 4000000 in
theorem j_Md_findBalances_27 {V : Vx} {X : Xx} {σ' : Sg}  : ∀ (n : Nat) (σ : Sg) (v1 : Int32), f_Md_findBalances_27 n σ v1 = some σ' → J V X (k2_rm 4 91) c_Md_findBalances R_Md 4 none (Qr V X none σ') σ 27 [(0, rf V 66), (1, .int v1)] [] := by
  intro n
  induction n with
  | zero => intro σ v1 hf; exact nn hf
  | succ n ih =>
    intro σ v1 hf
    rw [f_Md_findBalances_27_s] at hf
    refine J_iload_n (pc' := 28) d_Md_findBalances_27 rfl 1 rfl ?_
    refine J_aload_n (pc' := 29) d_Md_findBalances_28 rfl 0 rfl ?_
    refine J_getI (pc' := 32) d_Md_findBalances_29 rfl sh_66 fl_Md_209 rfl ?_
    refine J_icmp_ge (pc' := 35) (tgt := 123) d_Md_findBalances_32 rfl (by decide) (fun hc5 => ?_) (fun hc5 => ?_)
    · have hf := brT hc5 hf
      obtain rfl := Option.some.inj hf
      exact J_vret d_Md_findBalances_123
    · have hf := brF hc5 hf
      refine J_aload_n (pc' := 36) d_Md_findBalances_35 rfl 0 rfl ?_
      refine J_iload_n (pc' := 37) d_Md_findBalances_36 rfl 1 rfl ?_
      obtain ⟨r7, hq6, hf⟩ := bpE hf
      refine J_V (pc' := 40) (as := [.int v1]) (rest := []) (st' := [.int r7]) d_Md_findBalances_37 rfl sh_66 rfl mv_Md_219 (ct_Md_counts V _ σ v1 hq6) rfl rfl ⟨Nat.le_of_ble_eq_true rfl, Nat.le_of_ble_eq_true rfl⟩ ⟨rfl, rfl⟩ (Nat.le_of_ble_eq_true rfl) rfl ?_
      refine J_if_eq (pc' := 43) (tgt := 117) d_Md_findBalances_40 rfl (by decide) (fun hc8 => ?_) (fun hc8 => ?_)
      · have hf := brT hc8 hf
        exact j_Md_findBalances_117 ih _ _ hf
      · have hf := brF hc8 hf
        refine J_aload_n (pc' := 44) d_Md_findBalances_43 rfl 0 rfl ?_
        refine J_getR (pc' := 47) d_Md_findBalances_44 rfl sh_66 fl_Md_37 rfl ?_
        refine J_iconst (pc' := 48) (v := 5) d_Md_findBalances_47 rfl ic_5 ?_
        refine J_iload_n (pc' := 49) d_Md_findBalances_48 rfl 1 rfl ?_
        refine J_imul (pc' := 50) d_Md_findBalances_49 rfl ?_
        obtain ⟨hg9, hf⟩ := gdE hf
        refine J_ial (pc' := 51) d_Md_findBalances_50 rfl sh_76 (vinP hg9) ?_
        refine J_istore_n (pc' := 52) (lv' := [(2, .int (σ.1 76 (5 * v1).toNatClampNeg)), (0, rf V 66), (1, .int v1)]) d_Md_findBalances_51 rfl rfl (by decide) rfl ?_
        refine J_aload_n (pc' := 53) d_Md_findBalances_52 rfl 1 rfl ?_
        refine J_iload_n (pc' := 54) d_Md_findBalances_53 rfl 0 rfl ?_
        refine J_aload_n (pc' := 55) d_Md_findBalances_54 rfl 1 rfl ?_
        refine J_getR (pc' := 58) d_Md_findBalances_55 rfl sh_66 fl_Md_37 rfl ?_
        refine J_iconst (pc' := 59) (v := 5) d_Md_findBalances_58 rfl ic_5 ?_
        refine J_iload_n (pc' := 60) d_Md_findBalances_59 rfl 2 rfl ?_
        refine J_imul (pc' := 61) d_Md_findBalances_60 rfl ?_
        refine J_iconst (pc' := 62) (v := 1) d_Md_findBalances_61 rfl ic_1 ?_
        refine J_iadd (pc' := 63) d_Md_findBalances_62 rfl ?_
        obtain ⟨hg10, hf⟩ := gdE hf
        refine J_ial (pc' := 64) d_Md_findBalances_63 rfl sh_76 (vinP hg10) ?_
        refine J_aload_n (pc' := 65) d_Md_findBalances_64 rfl 1 rfl ?_
        refine J_getR (pc' := 68) d_Md_findBalances_65 rfl sh_66 fl_Md_37 rfl ?_
        refine J_iconst (pc' := 69) (v := 5) d_Md_findBalances_68 rfl ic_5 ?_
        refine J_iload_n (pc' := 70) d_Md_findBalances_69 rfl 2 rfl ?_
        refine J_imul (pc' := 71) d_Md_findBalances_70 rfl ?_
        refine J_iconst (pc' := 72) (v := 3) d_Md_findBalances_71 rfl ic_3 ?_
        refine J_iadd (pc' := 73) d_Md_findBalances_72 rfl ?_
        obtain ⟨hg11, hf⟩ := gdE hf
        refine J_ial (pc' := 74) d_Md_findBalances_73 rfl sh_76 (vinP hg11) ?_
        obtain ⟨r13, hq12, hf⟩ := bpE hf
        refine J_V (pc' := 77) (as := [.int (σ.1 76 (5 * v1).toNatClampNeg), .int (σ.1 76 ((5 * v1) + 1).toNatClampNeg), .int (σ.1 76 ((5 * v1) + 3).toNatClampNeg)]) (rest := []) (st' := [.int r13]) d_Md_findBalances_74 rfl sh_66 rfl mv_Md_195 (ct_Md_costs V _ σ (σ.1 76 (5 * v1).toNatClampNeg) (σ.1 76 ((5 * v1) + 1).toNatClampNeg) (σ.1 76 ((5 * v1) + 3).toNatClampNeg) hq12) rfl rfl ⟨Nat.le_of_ble_eq_true rfl, Nat.le_of_ble_eq_true rfl⟩ ⟨rfl, rfl⟩ (Nat.le_of_ble_eq_true rfl) rfl ?_
        refine J_istore_n (pc' := 78) (lv' := [(3, .int r13), (2, .int (σ.1 76 (5 * v1).toNatClampNeg)), (0, rf V 66), (1, .int v1)]) d_Md_findBalances_77 rfl rfl (by decide) rfl ?_
        refine J_aload_n (pc' := 79) d_Md_findBalances_78 rfl 2 rfl ?_
        refine J_getR (pc' := 82) d_Md_findBalances_79 rfl sh_66 fl_Md_58 rfl ?_
        refine J_aload_n (pc' := 83) d_Md_findBalances_82 rfl 2 rfl ?_
        refine J_getR (pc' := 86) d_Md_findBalances_83 rfl sh_66 fl_Md_37 rfl ?_
        refine J_iconst (pc' := 87) (v := 5) d_Md_findBalances_86 rfl ic_5 ?_
        refine J_iload_n (pc' := 88) d_Md_findBalances_87 rfl 3 rfl ?_
        refine J_imul (pc' := 89) d_Md_findBalances_88 rfl ?_
        refine J_iconst (pc' := 90) (v := 4) d_Md_findBalances_89 rfl ic_4 ?_
        refine J_iadd (pc' := 91) d_Md_findBalances_90 rfl ?_
        obtain ⟨hg14, hf⟩ := gdE hf
        refine J_ial (pc' := 92) d_Md_findBalances_91 rfl sh_76 (vinP hg14) ?_
        refine J_dup2 (pc' := 93) d_Md_findBalances_92 rfl rfl rfl ?_
        obtain ⟨hg15, hf⟩ := gdE hf
        refine J_ial (pc' := 94) d_Md_findBalances_93 rfl sh_83 (vinP hg15) ?_
        refine J_iload_n (pc' := 95) d_Md_findBalances_94 rfl 0 rfl ?_
        refine J_isub (pc' := 96) d_Md_findBalances_95 rfl ?_
        obtain ⟨hg16, hf⟩ := gdE hf
        refine J_ias (pc' := 97) d_Md_findBalances_96 rfl sh_83 (vinP hg16) ?_
        refine J_aload_n (pc' := 98) d_Md_findBalances_97 rfl 2 rfl ?_
        refine J_getR (pc' := 101) d_Md_findBalances_98 rfl sh_66 fl_Md_58 rfl ?_
        refine J_aload_n (pc' := 102) d_Md_findBalances_101 rfl 2 rfl ?_
        refine J_getR (pc' := 105) d_Md_findBalances_102 rfl sh_66 fl_Md_28 rfl ?_
        refine J_bipush (pc' := 107) (v := 6) d_Md_findBalances_105 rfl bc_6 ?_
        refine J_iload_n (pc' := 108) d_Md_findBalances_107 rfl 1 rfl ?_
        refine J_imul (pc' := 109) d_Md_findBalances_108 rfl ?_
        refine J_iconst (pc' := 110) (v := 5) d_Md_findBalances_109 rfl ic_5 ?_
        refine J_iadd (pc' := 111) d_Md_findBalances_110 rfl ?_
        obtain ⟨hg17, hf⟩ := gdE hf
        refine J_ial (pc' := 112) d_Md_findBalances_111 rfl sh_73 (vinP hg17) ?_
        refine J_dup2 (pc' := 113) d_Md_findBalances_112 rfl rfl rfl ?_
        obtain ⟨hg18, hf⟩ := gdE hf
        refine J_ial (pc' := 114) d_Md_findBalances_113 rfl sh_83 (vinP hg18) ?_
        refine J_iload_n (pc' := 115) d_Md_findBalances_114 rfl 0 rfl ?_
        refine J_iadd (pc' := 116) d_Md_findBalances_115 rfl ?_
        obtain ⟨hg19, hf⟩ := gdE hf
        refine J_ias (pc' := 117) d_Md_findBalances_116 rfl sh_83 (vinP hg19) ?_
        refine J_pick [2, 3] rfl ?_
        exact j_Md_findBalances_117 ih _ _ hf
def f_Md_findBalances_7 : Nat → Sg → Int32 → Option Sg
  | 0, _, _ => none
  | n + 1, σ, v1 =>
    if 5 ≤ v1 then
      f_Md_findBalances_27 FU σ 0
    else
      gd (vin v1 5) (
        f_Md_findBalances_7 n (pI σ 83 v1.toNatClampNeg 0) (v1 + 1))
theorem f_Md_findBalances_7_s (n : Nat) (σ : Sg) (v1 : Int32) : f_Md_findBalances_7 (n + 1) σ v1 =
    if 5 ≤ v1 then
      f_Md_findBalances_27 FU σ 0
    else
      gd (vin v1 5) (
        f_Md_findBalances_7 n (pI σ 83 v1.toNatClampNeg 0) (v1 + 1)) := rfl
set_option maxHeartbeats 4000000 in
theorem j_Md_findBalances_7 {V : Vx} {X : Xx} {σ' : Sg}  : ∀ (n : Nat) (σ : Sg) (v1 : Int32), f_Md_findBalances_7 n σ v1 = some σ' → J V X (k2_rm 4 91) c_Md_findBalances R_Md 4 none (Qr V X none σ') σ 7 [(0, rf V 66), (1, .int v1)] [] := by
  intro n
  induction n with
  | zero => intro σ v1 hf; exact nn hf
  | succ n ih =>
    intro σ v1 hf
    rw [f_Md_findBalances_7_s] at hf
    refine J_iload_n (pc' := 8) d_Md_findBalances_7 rfl 1 rfl ?_
    refine J_iconst (pc' := 9) (v := 5) d_Md_findBalances_8 rfl ic_5 ?_
    refine J_icmp_ge (pc' := 12) (tgt := 25) d_Md_findBalances_9 rfl (by decide) (fun hc4 => ?_) (fun hc4 => ?_)
    · have hf := brT hc4 hf
      refine J_iconst (pc' := 26) (v := 0) d_Md_findBalances_25 rfl ic_0 ?_
      refine J_istore_n (pc' := 27) (lv' := [(1, .int 0), (0, rf V 66)]) d_Md_findBalances_26 rfl rfl (by decide) rfl ?_
      refine J_pick [1, 0] rfl ?_
      exact j_Md_findBalances_27 FU _ _ hf
    · have hf := brF hc4 hf
      refine J_aload_n (pc' := 13) d_Md_findBalances_12 rfl 0 rfl ?_
      refine J_getR (pc' := 16) d_Md_findBalances_13 rfl sh_66 fl_Md_58 rfl ?_
      refine J_iload_n (pc' := 17) d_Md_findBalances_16 rfl 1 rfl ?_
      refine J_iconst (pc' := 18) (v := 0) d_Md_findBalances_17 rfl ic_0 ?_
      obtain ⟨hg20, hf⟩ := gdE hf
      refine J_ias (pc' := 19) d_Md_findBalances_18 rfl sh_83 (vinP hg20) ?_
      refine J_iinc (pc' := 22) (j := 1) (v := 1) (lv' := [(1, .int (v1 + 1)), (0, rf V 66)]) d_Md_findBalances_19 rfl rfl ic_1 (by decide) rfl ?_
      refine J_goto (tgt := 7) d_Md_findBalances_22 (by decide) ?_
      refine J_pick [1, 0] rfl ?_
      exact ih _ _ hf
def f_Md_findBalances (σ : Sg)  : Option Sg :=
  bd (f_Md_find σ) fun r3 σ2 =>
    f_Md_findBalances_7 FU σ2 0
set_option maxHeartbeats 4000000 in
theorem j_Md_findBalances {V : Vx} {X : Xx} {σ' : Sg} (σ : Sg) (hf : f_Md_findBalances σ = some σ') : J V X (k2_rm 4 91) c_Md_findBalances R_Md 4 none (Qr V X none σ') σ 0 [(0, rf V 66)] [] := by
  unfold f_Md_findBalances at hf
  refine J_aload_n (pc' := 1) d_Md_findBalances_0 rfl 0 rfl ?_
  obtain ⟨r3, σ2, hq1, hf⟩ := bdE hf
  refine J_V (pc' := 4) (as := []) (rest := []) (st' := [.int r3]) d_Md_findBalances_1 rfl sh_66 rfl mv_Md_137 (ct_Md_find V _ σ hq1) rfl rfl ⟨Nat.le_of_ble_eq_true rfl, Nat.le_of_ble_eq_true rfl⟩ ⟨rfl, rfl⟩ (Nat.le_of_ble_eq_true rfl) rfl ?_
  refine J_pop (pc' := 5) d_Md_findBalances_4 rfl rfl ?_
  refine J_iconst (pc' := 6) (v := 0) d_Md_findBalances_5 rfl ic_0 ?_
  refine J_istore_n (pc' := 7) (lv' := [(1, .int 0), (0, rf V 66)]) d_Md_findBalances_6 rfl rfl (by decide) rfl ?_
  refine J_pick [1, 0] rfl ?_
  exact j_Md_findBalances_7 FU _ _ hf
theorem ct_Md_findBalances (V : Vx) (l : Launch) (σ : Sg) {σ' : Sg} (hf : f_Md_findBalances σ = some σ') : Ct V l y_Md_findBalances c_Md_findBalances 4 none (k2_rm 4 91) [rf V 66] σ none σ' := Ct.ofJ (by decide +kernel) (Nat.le_of_ble_eq_true rfl) fun X _ => j_Md_findBalances _  hf
def f_Md_balanceOf (σ : Sg) (v1 : Int32) : Option (Int32 × Sg) :=
  (f_Md_findBalances σ).bind fun σ2 =>
    gd (vin v1 5) (
      some (σ2.1 83 v1.toNatClampNeg, σ2))
set_option maxHeartbeats 4000000 in
theorem j_Md_balanceOf {V : Vx} {X : Xx} {r : Int32} {σ' : Sg} (σ : Sg) (v1 : Int32) (hf : f_Md_balanceOf σ v1 = some (r, σ')) : J V X (k2_rm 5 114) c_Md_balanceOf R_Md 2 (some .int) (Qr V X (some (.int r)) σ') σ 0 [(0, rf V 66), (1, .int v1)] [] := by
  unfold f_Md_balanceOf at hf
  refine J_aload_n (pc' := 1) d_Md_balanceOf_0 rfl 0 rfl ?_
  obtain ⟨σ2, hq1, hf⟩ := bpE hf
  refine J_V (pc' := 4) (as := []) (rest := []) (st' := []) d_Md_balanceOf_1 rfl sh_66 rfl mv_Md_310 (ct_Md_findBalances V _ σ hq1) rfl rfl ⟨Nat.le_of_ble_eq_true rfl, Nat.le_of_ble_eq_true rfl⟩ ⟨rfl, rfl⟩ (Nat.le_of_ble_eq_true rfl) rfl ?_
  refine J_aload_n (pc' := 5) d_Md_balanceOf_4 rfl 0 rfl ?_
  refine J_getR (pc' := 8) d_Md_balanceOf_5 rfl sh_66 fl_Md_58 rfl ?_
  refine J_iload_n (pc' := 9) d_Md_balanceOf_8 rfl 1 rfl ?_
  obtain ⟨hg3, hf⟩ := gdE hf
  refine J_ial (pc' := 10) d_Md_balanceOf_9 rfl sh_83 (vinP hg3) ?_
  obtain ⟨rfl, rfl⟩ := resE hf
  exact J_iret d_Md_balanceOf_10
theorem ct_Md_balanceOf (V : Vx) (l : Launch) (σ : Sg) (v1 : Int32) {r : Int32} {σ' : Sg} (hf : f_Md_balanceOf σ v1 = some (r, σ')) : Ct V l y_Md_balanceOf c_Md_balanceOf 2 (some .int) (k2_rm 5 114) [rf V 66, .int v1] σ (some (.int r)) σ' := Ct.ofJ (by decide +kernel) (Nat.le_of_ble_eq_true rfl) fun X _ => j_Md_balanceOf _ v1 hf
def f_Md_balance (σ : Sg) (v1 : Int32) : Option (Int32 × Sg) :=
  if (f_Md_isOwner v1) = 0 then
    some ((-10002), σ)
  else
    bd (f_Md_balanceOf σ v1) fun r4 σ3 =>
      some (r4, σ3)
set_option maxHeartbeats 4000000 in
theorem j_Md_balance {V : Vx} {X : Xx} {r : Int32} {σ' : Sg} (σ : Sg) (v1 : Int32) (hf : f_Md_balance σ v1 = some (r, σ')) : J V X (k2_rm 6 135) c_Md_balance R_Md 2 (some .int) (Qr V X (some (.int r)) σ') σ 0 [(0, rf V 66), (1, .int v1)] [] := by
  unfold f_Md_balance at hf
  refine J_iload_n (pc' := 1) d_Md_balance_0 rfl 1 rfl ?_
  refine J_S (pc' := 4) (as := [.int v1]) (rest := []) (st' := [.int (f_Md_isOwner v1)]) d_Md_balance_1 rfl ms_Md_206 (ct_Md_isOwner V _ σ v1) rfl rfl ⟨Nat.le_of_ble_eq_true rfl, Nat.le_of_ble_eq_true rfl⟩ ⟨rfl, rfl⟩ (Nat.le_of_ble_eq_true rfl) rfl ?_
  refine J_if_eq (pc' := 7) (tgt := 15) d_Md_balance_4 rfl (by decide) (fun hc1 => ?_) (fun hc1 => ?_)
  · have hf := brT hc1 hf
    refine J_sipush (pc' := 18) (v := (-10002)) d_Md_balance_15 rfl sc_m10002 ?_
    obtain ⟨rfl, rfl⟩ := resE hf
    exact J_iret d_Md_balance_18
  · have hf := brF hc1 hf
    refine J_aload_n (pc' := 8) d_Md_balance_7 rfl 0 rfl ?_
    refine J_iload_n (pc' := 9) d_Md_balance_8 rfl 1 rfl ?_
    obtain ⟨r4, σ3, hq2, hf⟩ := bdE hf
    refine J_V (pc' := 12) (as := [.int v1]) (rest := []) (st' := [.int r4]) d_Md_balance_9 rfl sh_66 rfl mv_Md_313 (ct_Md_balanceOf V _ σ v1 hq2) rfl rfl ⟨Nat.le_of_ble_eq_true rfl, Nat.le_of_ble_eq_true rfl⟩ ⟨rfl, rfl⟩ (Nat.le_of_ble_eq_true rfl) rfl ?_
    refine J_goto (tgt := 18) d_Md_balance_12 (by decide) ?_
    obtain ⟨rfl, rfl⟩ := resE hf
    exact J_iret d_Md_balance_18
theorem ct_Md_balance (V : Vx) (l : Launch) (σ : Sg) (v1 : Int32) {r : Int32} {σ' : Sg} (hf : f_Md_balance σ v1 = some (r, σ')) : Ct V l y_Md_balance c_Md_balance 2 (some .int) (k2_rm 6 135) [rf V 66, .int v1] σ (some (.int r)) σ' := Ct.ofJ (by decide +kernel) (Nat.le_of_ble_eq_true rfl) fun X _ => j_Md_balance _ v1 hf
def f_Md_sumOf_29 (k4 : Sg → Int32 → Int32 → Int32 → Option Int32) (σ : Sg) (v1 : Int32) (v3 : Int32) (s0 : Int32) (s1 : Int32) : Option Int32 :=
  k4 σ v1 (s1 + s0) (v3 + 1)
set_option maxHeartbeats 4000000 in
theorem j_Md_sumOf_29 {V : Vx} {X : Xx} {σ : Sg} {r : Int32} {k4 : Sg → Int32 → Int32 → Int32 → Option Int32} (hk4 : ∀ (v1 : Int32) (v2 : Int32) (v3 : Int32), k4 σ v1 v2 v3 = some r → J V X (k2_rm 0 0) c_Md_sumOf R_Md 4 (some .int) (Qr V X (some (.int r)) σ) σ 4 [(0, rf V 66), (1, .int v1), (2, .int v2), (3, .int v3)] []) (v1 : Int32) (v3 : Int32) (s0 : Int32) (s1 : Int32) (hf : f_Md_sumOf_29 k4 σ v1 v3 s0 s1 = some r) : J V X (k2_rm 0 0) c_Md_sumOf R_Md 4 (some .int) (Qr V X (some (.int r)) σ) σ 29 [(0, rf V 66), (1, .int v1), (3, .int v3)] [.int s0, .int s1] := by
  unfold f_Md_sumOf_29 at hf
  refine J_iadd (pc' := 30) d_Md_sumOf_29 rfl ?_
  refine J_istore_n (pc' := 31) (lv' := [(2, .int (s1 + s0)), (0, rf V 66), (1, .int v1), (3, .int v3)]) d_Md_sumOf_30 rfl rfl (by decide) rfl ?_
  refine J_iinc (pc' := 34) (j := 3) (v := 1) (lv' := [(3, .int (v3 + 1)), (2, .int (s1 + s0)), (0, rf V 66), (1, .int v1)]) d_Md_sumOf_31 rfl rfl ic_1 (by decide) rfl ?_
  refine J_goto (tgt := 4) d_Md_sumOf_34 (by decide) ?_
  refine J_pick [2, 3, 1, 0] rfl ?_
  exact hk4 _ _ _ hf
def f_Md_sumOf_4 : Nat → Sg → Int32 → Int32 → Int32 → Option Int32
  | 0, _, _, _, _ => none
  | n + 1, σ, v1, v2, v3 =>
    if 5 ≤ v3 then
      some v2
    else
      if ((v1 >>> (v3 &&& 31)) &&& 1) = 1 then
        gd (vin v3 5) (
          f_Md_sumOf_29 (f_Md_sumOf_4 n) σ v1 v3 (σ.1 83 v3.toNatClampNeg) v2)
      else
        f_Md_sumOf_29 (f_Md_sumOf_4 n) σ v1 v3 0 v2
theorem f_Md_sumOf_4_s (n : Nat) (σ : Sg) (v1 : Int32) (v2 : Int32) (v3 : Int32) : f_Md_sumOf_4 (n + 1) σ v1 v2 v3 =
    if 5 ≤ v3 then
      some v2
    else
      if ((v1 >>> (v3 &&& 31)) &&& 1) = 1 then
        gd (vin v3 5) (
          f_Md_sumOf_29 (f_Md_sumOf_4 n) σ v1 v3 (σ.1 83 v3.toNatClampNeg) v2)
      else
        f_Md_sumOf_29 (f_Md_sumOf_4 n) σ v1 v3 0 v2 := rfl
set_option maxHeartbeats 4000000 in
theorem j_Md_sumOf_4 {V : Vx} {X : Xx} {σ : Sg} {r : Int32}  : ∀ (n : Nat) (v1 : Int32) (v2 : Int32) (v3 : Int32), f_Md_sumOf_4 n σ v1 v2 v3 = some r → J V X (k2_rm 0 0) c_Md_sumOf R_Md 4 (some .int) (Qr V X (some (.int r)) σ) σ 4 [(0, rf V 66), (1, .int v1), (2, .int v2), (3, .int v3)] [] := by
  intro n
  induction n with
  | zero => intro v1 v2 v3 hf; exact nn hf
  | succ n ih =>
    intro v1 v2 v3 hf
    rw [f_Md_sumOf_4_s] at hf
    refine J_iload_n (pc' := 5) d_Md_sumOf_4 rfl 3 rfl ?_
    refine J_iconst (pc' := 6) (v := 5) d_Md_sumOf_5 rfl ic_5 ?_
    refine J_icmp_ge (pc' := 9) (tgt := 37) d_Md_sumOf_6 rfl (by decide) (fun hc1 => ?_) (fun hc1 => ?_)
    · have hf := brT hc1 hf
      refine J_iload_n (pc' := 38) d_Md_sumOf_37 rfl 2 rfl ?_
      obtain rfl := Option.some.inj hf
      exact J_iret d_Md_sumOf_38
    · have hf := brF hc1 hf
      refine J_iload_n (pc' := 10) d_Md_sumOf_9 rfl 2 rfl ?_
      refine J_iload_n (pc' := 11) d_Md_sumOf_10 rfl 1 rfl ?_
      refine J_iload_n (pc' := 12) d_Md_sumOf_11 rfl 3 rfl ?_
      refine J_ishr (pc' := 13) d_Md_sumOf_12 rfl ?_
      refine J_iconst (pc' := 14) (v := 1) d_Md_sumOf_13 rfl ic_1 ?_
      refine J_iand (pc' := 15) d_Md_sumOf_14 rfl ?_
      refine J_iconst (pc' := 16) (v := 1) d_Md_sumOf_15 rfl ic_1 ?_
      refine J_icmp_ne (pc' := 19) (tgt := 28) d_Md_sumOf_16 rfl (by decide) (fun hc2 => ?_) (fun hc2 => ?_)
      · have hf := brF hc2 hf
        refine J_iconst (pc' := 29) (v := 0) d_Md_sumOf_28 rfl ic_0 ?_
        refine J_pick [0, 1, 3] rfl ?_
        exact j_Md_sumOf_29 ih _ _ _ _ hf
      · have hf := brT hc2 hf
        refine J_aload_n (pc' := 20) d_Md_sumOf_19 rfl 0 rfl ?_
        refine J_getR (pc' := 23) d_Md_sumOf_20 rfl sh_66 fl_Md_58 rfl ?_
        refine J_iload_n (pc' := 24) d_Md_sumOf_23 rfl 3 rfl ?_
        obtain ⟨hg3, hf⟩ := gdE hf
        refine J_ial (pc' := 25) d_Md_sumOf_24 rfl sh_83 (vinP hg3) ?_
        refine J_goto (tgt := 29) d_Md_sumOf_25 (by decide) ?_
        refine J_pick [0, 1, 3] rfl ?_
        exact j_Md_sumOf_29 ih _ _ _ _ hf
def f_Md_sumOf (σ : Sg) (v1 : Int32) : Option Int32 :=
  f_Md_sumOf_4 FU σ v1 0 0
set_option maxHeartbeats 4000000 in
theorem j_Md_sumOf {V : Vx} {X : Xx} {r : Int32} (σ : Sg) (v1 : Int32) (hf : f_Md_sumOf σ v1 = some r) : J V X (k2_rm 0 0) c_Md_sumOf R_Md 4 (some .int) (Qr V X (some (.int r)) σ) σ 0 [(0, rf V 66), (1, .int v1)] [] := by
  unfold f_Md_sumOf at hf
  refine J_iconst (pc' := 1) (v := 0) d_Md_sumOf_0 rfl ic_0 ?_
  refine J_istore_n (pc' := 2) (lv' := [(2, .int 0), (0, rf V 66), (1, .int v1)]) d_Md_sumOf_1 rfl rfl (by decide) rfl ?_
  refine J_iconst (pc' := 3) (v := 0) d_Md_sumOf_2 rfl ic_0 ?_
  refine J_istore_n (pc' := 4) (lv' := [(3, .int 0), (2, .int 0), (0, rf V 66), (1, .int v1)]) d_Md_sumOf_3 rfl rfl (by decide) rfl ?_
  refine J_pick [2, 3, 1, 0] rfl ?_
  exact j_Md_sumOf_4 FU _ _ _ hf
theorem ct_Md_sumOf (V : Vx) (l : Launch) (σ : Sg) (v1 : Int32) {r : Int32} (hf : f_Md_sumOf σ v1 = some r) : Ct V l y_Md_sumOf c_Md_sumOf 4 (some .int) (k2_rm 0 0) [rf V 66, .int v1] σ (some (.int r)) σ := Ct.ofJ (by decide +kernel) (Nat.le_of_ble_eq_true rfl) fun X _ => j_Md_sumOf _ v1 hf
