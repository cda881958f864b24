theorem d_Fe_allFares_0 : decode c_Fe_allFares 0 = .ok (.iconst 0, 1) := by decide +kernel
theorem d_Fe_allFares_1 : decode c_Fe_allFares 1 = .ok (.istore_n 3, 1) := by decide +kernel
theorem d_Fe_allFares_2 : decode c_Fe_allFares 2 = .ok (.iconst 0, 1) := by decide +kernel
theorem d_Fe_allFares_3 : decode c_Fe_allFares 3 = .ok (.istore 4, 2) := by decide +kernel
theorem d_Fe_allFares_5 : decode c_Fe_allFares 5 = .ok (.iload 4, 2) := by decide +kernel
theorem d_Fe_allFares_7 : decode c_Fe_allFares 7 = .ok (.aload_n 2, 1) := by decide +kernel
theorem d_Fe_allFares_8 : decode c_Fe_allFares 8 = .ok (.getfield 53, 3) := by decide +kernel
theorem d_Fe_allFares_11 : decode c_Fe_allFares 11 = .ok (.if_icmp .ge 22, 3) := by decide +kernel
theorem d_Fe_allFares_14 : decode c_Fe_allFares 14 = .ok (.iload_n 3, 1) := by decide +kernel
theorem d_Fe_allFares_15 : decode c_Fe_allFares 15 = .ok (.aload_n 1, 1) := by decide +kernel
theorem d_Fe_allFares_16 : decode c_Fe_allFares 16 = .ok (.aload_n 2, 1) := by decide +kernel
theorem d_Fe_allFares_17 : decode c_Fe_allFares 17 = .ok (.iload 4, 2) := by decide +kernel
theorem d_Fe_allFares_19 : decode c_Fe_allFares 19 = .ok (.invokevirtual 58, 3) := by decide +kernel
theorem d_Fe_allFares_22 : decode c_Fe_allFares 22 = .ok (.invokestatic 61, 3) := by decide +kernel
theorem d_Fe_allFares_25 : decode c_Fe_allFares 25 = .ok (.iadd, 1) := by decide +kernel
theorem d_Fe_allFares_26 : decode c_Fe_allFares 26 = .ok (.istore_n 3, 1) := by decide +kernel
theorem d_Fe_allFares_27 : decode c_Fe_allFares 27 = .ok (.iinc 4 1, 3) := by decide +kernel
theorem d_Fe_allFares_30 : decode c_Fe_allFares 30 = .ok (.goto (-25), 3) := by decide +kernel
theorem d_Fe_allFares_33 : decode c_Fe_allFares 33 = .ok (.iload_n 3, 1) := by decide +kernel
theorem d_Fe_allFares_34 : decode c_Fe_allFares 34 = .ok (.ireturn, 1) := by decide +kernel
theorem d_GR_count_0 : decode c_GR_count 0 = .ok (.iload_n 1, 1) := by decide +kernel
theorem d_GR_count_1 : decode c_GR_count 1 = .ok (.tableswitch 128 0 8 #[51, 59, 67, 75, 83, 88, 96, 104, 120], 51) := by decide +kernel
theorem d_GR_count_52 : decode c_GR_count 52 = .ok (.aload_n 0, 1) := by decide +kernel
theorem d_GR_count_53 : decode c_GR_count 53 = .ok (.getfield 24, 3) := by decide +kernel
theorem d_GR_count_56 : decode c_GR_count 56 = .ok (.getfield 245, 3) := by decide +kernel
theorem d_GR_count_59 : decode c_GR_count 59 = .ok (.ireturn, 1) := by decide +kernel
theorem d_GR_count_60 : decode c_GR_count 60 = .ok (.aload_n 0, 1) := by decide +kernel
theorem d_GR_count_61 : decode c_GR_count 61 = .ok (.getfield 14, 3) := by decide +kernel
theorem d_GR_count_64 : decode c_GR_count 64 = .ok (.getfield 86, 3) := by decide +kernel
theorem d_GR_count_67 : decode c_GR_count 67 = .ok (.ireturn, 1) := by decide +kernel
theorem d_GR_count_68 : decode c_GR_count 68 = .ok (.aload_n 0, 1) := by decide +kernel
theorem d_GR_count_69 : decode c_GR_count 69 = .ok (.getfield 18, 3) := by decide +kernel
theorem d_GR_count_72 : decode c_GR_count 72 = .ok (.getfield 86, 3) := by decide +kernel
theorem d_GR_count_75 : decode c_GR_count 75 = .ok (.ireturn, 1) := by decide +kernel
theorem d_GR_count_76 : decode c_GR_count 76 = .ok (.aload_n 0, 1) := by decide +kernel
theorem d_GR_count_77 : decode c_GR_count 77 = .ok (.getfield 35, 3) := by decide +kernel
theorem d_GR_count_80 : decode c_GR_count 80 = .ok (.getfield 154, 3) := by decide +kernel
theorem d_GR_count_83 : decode c_GR_count 83 = .ok (.ireturn, 1) := by decide +kernel
theorem d_GR_count_84 : decode c_GR_count 84 = .ok (.aload_n 0, 1) := by decide +kernel
theorem d_GR_count_85 : decode c_GR_count 85 = .ok (.invokevirtual 295, 3) := by decide +kernel
theorem d_GR_count_88 : decode c_GR_count 88 = .ok (.ireturn, 1) := by decide +kernel
theorem d_GR_count_89 : decode c_GR_count 89 = .ok (.aload_n 0, 1) := by decide +kernel
theorem d_GR_count_90 : decode c_GR_count 90 = .ok (.getfield 49, 3) := by decide +kernel
theorem d_GR_count_93 : decode c_GR_count 93 = .ok (.getfield 230, 3) := by decide +kernel
theorem d_GR_count_96 : decode c_GR_count 96 = .ok (.ireturn, 1) := by decide +kernel
theorem d_GR_count_97 : decode c_GR_count 97 = .ok (.aload_n 0, 1) := by decide +kernel
theorem d_GR_count_98 : decode c_GR_count 98 = .ok (.getfield 24, 3) := by decide +kernel
theorem d_GR_count_101 : decode c_GR_count 101 = .ok (.invokevirtual 298, 3) := by decide +kernel
theorem d_GR_count_104 : decode c_GR_count 104 = .ok (.ireturn, 1) := by decide +kernel
theorem d_GR_count_105 : decode c_GR_count 105 = .ok (.aload_n 0, 1) := by decide +kernel
theorem d_GR_count_106 : decode c_GR_count 106 = .ok (.getfield 56, 3) := by decide +kernel
theorem d_GR_count_109 : decode c_GR_count 109 = .ok (.aload_n 0, 1) := by decide +kernel
theorem d_GR_count_110 : decode c_GR_count 110 = .ok (.getfield 24, 3) := by decide +kernel
theorem d_GR_count_113 : decode c_GR_count 113 = .ok (.aload_n 0, 1) := by decide +kernel
theorem d_GR_count_114 : decode c_GR_count 114 = .ok (.getfield 35, 3) := by decide +kernel
theorem d_GR_count_117 : decode c_GR_count 117 = .ok (.invokevirtual 301, 3) := by decide +kernel
theorem d_GR_count_120 : decode c_GR_count 120 = .ok (.ireturn, 1) := by decide +kernel
theorem d_GR_count_121 : decode c_GR_count 121 = .ok (.aload_n 0, 1) := by decide +kernel
theorem d_GR_count_122 : decode c_GR_count 122 = .ok (.getfield 63, 3) := by decide +kernel
theorem d_GR_count_125 : decode c_GR_count 125 = .ok (.getfield 304, 3) := by decide +kernel
theorem d_GR_count_128 : decode c_GR_count 128 = .ok (.ireturn, 1) := by decide +kernel
theorem d_GR_count_129 : decode c_GR_count 129 = .ok (.bipush (-2), 2) := by decide +kernel
theorem d_GR_count_131 : decode c_GR_count 131 = .ok (.ireturn, 1) := by decide +kernel
theorem d_GR_mixed_0 : decode c_GR_mixed 0 = .ok (.ldc2_w 340, 3) := by decide +kernel
theorem d_GR_mixed_3 : decode c_GR_mixed 3 = .ok (.lload_n 0, 1) := by decide +kernel
theorem d_GR_mixed_4 : decode c_GR_mixed 4 = .ok (.lmul, 1) := by decide +kernel
theorem d_GR_mixed_5 : decode c_GR_mixed 5 = .ok (.lload_n 2, 1) := by decide +kernel
theorem d_GR_mixed_6 : decode c_GR_mixed 6 = .ok (.ladd, 1) := by decide +kernel
theorem d_GR_mixed_7 : decode c_GR_mixed 7 = .ok (.lreturn, 1) := by decide +kernel
theorem d_GR_mixedMill_0 : decode c_GR_mixedMill 0 = .ok (.lload_n 1, 1) := by decide +kernel
theorem d_GR_mixedMill_1 : decode c_GR_mixedMill 1 = .ok (.lstore_n 3, 1) := by decide +kernel
theorem d_GR_mixedMill_2 : decode c_GR_mixedMill 2 = .ok (.aload_n 0, 1) := by decide +kernel
theorem d_GR_mixedMill_3 : decode c_GR_mixedMill 3 = .ok (.getfield 49, 3) := by decide +kernel
theorem d_GR_mixedMill_6 : decode c_GR_mixedMill 6 = .ok (.aload_n 0, 1) := by decide +kernel
theorem d_GR_mixedMill_7 : decode c_GR_mixedMill 7 = .ok (.getfield 24, 3) := by decide +kernel
theorem d_GR_mixedMill_10 : decode c_GR_mixedMill 10 = .ok (.iconst (-1), 1) := by decide +kernel
theorem d_GR_mixedMill_11 : decode c_GR_mixedMill 11 = .ok (.aload_n 0, 1) := by decide +kernel
theorem d_GR_mixedMill_12 : decode c_GR_mixedMill 12 = .ok (.getfield 28, 3) := by decide +kernel
theorem d_GR_mixedMill_15 : decode c_GR_mixedMill 15 = .ok (.iconst 2, 1) := by decide +kernel
theorem d_GR_mixedMill_16 : decode c_GR_mixedMill 16 = .ok (.iaload, 1) := by decide +kernel
theorem d_GR_mixedMill_17 : decode c_GR_mixedMill 17 = .ok (.invokevirtual 232, 3) := by decide +kernel
theorem d_GR_mixedMill_20 : decode c_GR_mixedMill 20 = .ok (.lload_n 3, 1) := by decide +kernel
theorem d_GR_mixedMill_21 : decode c_GR_mixedMill 21 = .ok (.aload_n 0, 1) := by decide +kernel
theorem d_GR_mixedMill_22 : decode c_GR_mixedMill 22 = .ok (.iconst (-1), 1) := by decide +kernel
theorem d_GR_mixedMill_23 : decode c_GR_mixedMill 23 = .ok (.invokevirtual 236, 3) := by decide +kernel
theorem d_GR_mixedMill_26 : decode c_GR_mixedMill 26 = .ok (.i2l, 1) := by decide +kernel
theorem d_GR_mixedMill_27 : decode c_GR_mixedMill 27 = .ok (.invokestatic 312, 3) := by decide +kernel
theorem d_GR_mixedMill_30 : decode c_GR_mixedMill 30 = .ok (.lstore_n 3, 1) := by decide +kernel
theorem d_GR_mixedMill_31 : decode c_GR_mixedMill 31 = .ok (.lload_n 3, 1) := by decide +kernel
theorem d_GR_mixedMill_32 : decode c_GR_mixedMill 32 = .ok (.aload_n 0, 1) := by decide +kernel
theorem d_GR_mixedMill_33 : decode c_GR_mixedMill 33 = .ok (.bipush (-2), 2) := by decide +kernel
theorem d_GR_mixedMill_35 : decode c_GR_mixedMill 35 = .ok (.invokevirtual 236, 3) := by decide +kernel
theorem d_GR_mixedMill_38 : decode c_GR_mixedMill 38 = .ok (.i2l, 1) := by decide +kernel
theorem d_GR_mixedMill_39 : decode c_GR_mixedMill 39 = .ok (.invokestatic 312, 3) := by decide +kernel
theorem d_GR_mixedMill_42 : decode c_GR_mixedMill 42 = .ok (.lstore_n 3, 1) := by decide +kernel
theorem d_GR_mixedMill_43 : decode c_GR_mixedMill 43 = .ok (.iconst 0, 1) := by decide +kernel
theorem d_GR_mixedMill_44 : decode c_GR_mixedMill 44 = .ok (.istore 5, 2) := by decide +kernel
theorem d_GR_mixedMill_46 : decode c_GR_mixedMill 46 = .ok (.iload 5, 2) := by decide +kernel
theorem d_GR_mixedMill_48 : decode c_GR_mixedMill 48 = .ok (.aload_n 0, 1) := by decide +kernel
theorem d_GR_mixedMill_49 : decode c_GR_mixedMill 49 = .ok (.getfield 49, 3) := by decide +kernel
theorem d_GR_mixedMill_52 : decode c_GR_mixedMill 52 = .ok (.getfield 230, 3) := by decide +kernel
theorem d_GR_mixedMill_55 : decode c_GR_mixedMill 55 = .ok (.if_icmp .ge 21, 3) := by decide +kernel
theorem d_GR_mixedMill_58 : decode c_GR_mixedMill 58 = .ok (.lload_n 3, 1) := by decide +kernel
theorem d_GR_mixedMill_59 : decode c_GR_mixedMill 59 = .ok (.aload_n 0, 1) := by decide +kernel
theorem d_GR_mixedMill_60 : decode c_GR_mixedMill 60 = .ok (.iload 5, 2) := by decide +kernel
theorem d_GR_mixedMill_62 : decode c_GR_mixedMill 62 = .ok (.invokevirtual 236, 3) := by decide +kernel
theorem d_GR_mixedMill_65 : decode c_GR_mixedMill 65 = .ok (.i2l, 1) := by decide +kernel
theorem d_GR_mixedMill_66 : decode c_GR_mixedMill 66 = .ok (.invokestatic 312, 3) := by decide +kernel
theorem d_GR_mixedMill_69 : decode c_GR_mixedMill 69 = .ok (.lstore_n 3, 1) := by decide +kernel
theorem d_GR_mixedMill_70 : decode c_GR_mixedMill 70 = .ok (.iinc 5 1, 3) := by decide +kernel
theorem d_GR_mixedMill_73 : decode c_GR_mixedMill 73 = .ok (.goto (-27), 3) := by decide +kernel
theorem d_GR_mixedMill_76 : decode c_GR_mixedMill 76 = .ok (.lload_n 3, 1) := by decide +kernel
theorem d_GR_mixedMill_77 : decode c_GR_mixedMill 77 = .ok (.aload_n 0, 1) := by decide +kernel
theorem d_GR_mixedMill_78 : decode c_GR_mixedMill 78 = .ok (.invokevirtual 368, 3) := by decide +kernel
theorem d_GR_mixedMill_81 : decode c_GR_mixedMill 81 = .ok (.i2l, 1) := by decide +kernel
theorem d_GR_mixedMill_82 : decode c_GR_mixedMill 82 = .ok (.invokestatic 312, 3) := by decide +kernel
theorem d_GR_mixedMill_85 : decode c_GR_mixedMill 85 = .ok (.lstore_n 3, 1) := by decide +kernel
theorem d_GR_mixedMill_86 : decode c_GR_mixedMill 86 = .ok (.aload_n 0, 1) := by decide +kernel
theorem d_GR_mixedMill_87 : decode c_GR_mixedMill 87 = .ok (.getfield 49, 3) := by decide +kernel
theorem d_GR_mixedMill_90 : decode c_GR_mixedMill 90 = .ok (.aload_n 0, 1) := by decide +kernel
theorem d_GR_mixedMill_91 : decode c_GR_mixedMill 91 = .ok (.getfield 24, 3) := by decide +kernel
theorem d_GR_mixedMill_94 : decode c_GR_mixedMill 94 = .ok (.iconst 0, 1) := by decide +kernel
theorem d_GR_mixedMill_95 : decode c_GR_mixedMill 95 = .ok (.bipush 9, 2) := by decide +kernel
theorem d_GR_mixedMill_97 : decode c_GR_mixedMill 97 = .ok (.iconst 1, 1) := by decide +kernel
theorem d_GR_mixedMill_98 : decode c_GR_mixedMill 98 = .ok (.aload_n 0, 1) := by decide +kernel
theorem d_GR_mixedMill_99 : decode c_GR_mixedMill 99 = .ok (.getfield 28, 3) := by decide +kernel
theorem d_GR_mixedMill_102 : decode c_GR_mixedMill 102 = .ok (.iconst 2, 1) := by decide +kernel
theorem d_GR_mixedMill_103 : decode c_GR_mixedMill 103 = .ok (.iaload, 1) := by decide +kernel
theorem d_GR_mixedMill_104 : decode c_GR_mixedMill 104 = .ok (.invokevirtual 246, 3) := by decide +kernel
theorem d_GR_mixedMill_107 : decode c_GR_mixedMill 107 = .ok (.iconst 0, 1) := by decide +kernel
theorem d_GR_mixedMill_108 : decode c_GR_mixedMill 108 = .ok (.istore 5, 2) := by decide +kernel
theorem d_GR_mixedMill_110 : decode c_GR_mixedMill 110 = .ok (.iload 5, 2) := by decide +kernel
theorem d_GR_mixedMill_112 : decode c_GR_mixedMill 112 = .ok (.iconst 3, 1) := by decide +kernel
theorem d_GR_mixedMill_113 : decode c_GR_mixedMill 113 = .ok (.if_icmp .ge 24, 3) := by decide +kernel
theorem d_GR_mixedMill_116 : decode c_GR_mixedMill 116 = .ok (.lload_n 3, 1) := by decide +kernel
theorem d_GR_mixedMill_117 : decode c_GR_mixedMill 117 = .ok (.aload_n 0, 1) := by decide +kernel
theorem d_GR_mixedMill_118 : decode c_GR_mixedMill 118 = .ok (.getfield 49, 3) := by decide +kernel
theorem d_GR_mixedMill_121 : decode c_GR_mixedMill 121 = .ok (.iload 5, 2) := by decide +kernel
theorem d_GR_mixedMill_123 : decode c_GR_mixedMill 123 = .ok (.invokevirtual 250, 3) := by decide +kernel
theorem d_GR_mixedMill_126 : decode c_GR_mixedMill 126 = .ok (.i2l, 1) := by decide +kernel
theorem d_GR_mixedMill_127 : decode c_GR_mixedMill 127 = .ok (.invokestatic 312, 3) := by decide +kernel
theorem d_GR_mixedMill_130 : decode c_GR_mixedMill 130 = .ok (.lstore_n 3, 1) := by decide +kernel
theorem d_GR_mixedMill_131 : decode c_GR_mixedMill 131 = .ok (.iinc 5 1, 3) := by decide +kernel
theorem d_GR_mixedMill_134 : decode c_GR_mixedMill 134 = .ok (.goto (-24), 3) := by decide +kernel
theorem d_GR_mixedMill_137 : decode c_GR_mixedMill 137 = .ok (.lload_n 3, 1) := by decide +kernel
theorem d_GR_mixedMill_138 : decode c_GR_mixedMill 138 = .ok (.lreturn, 1) := by decide +kernel
theorem d_GR_mixedRope_0 : decode c_GR_mixedRope 0 = .ok (.lload_n 1, 1) := by decide +kernel
theorem d_GR_mixedRope_1 : decode c_GR_mixedRope 1 = .ok (.lstore 4, 2) := by decide +kernel
theorem d_GR_mixedRope_3 : decode c_GR_mixedRope 3 = .ok (.aload_n 0, 1) := by decide +kernel
theorem d_GR_mixedRope_4 : decode c_GR_mixedRope 4 = .ok (.getfield 24, 3) := by decide +kernel
theorem d_GR_mixedRope_7 : decode c_GR_mixedRope 7 = .ok (.iload_n 3, 1) := by decide +kernel
theorem d_GR_mixedRope_8 : decode c_GR_mixedRope 8 = .ok (.invokevirtual 104, 3) := by decide +kernel
theorem d_GR_mixedRope_11 : decode c_GR_mixedRope 11 = .ok (.astore 6, 2) := by decide +kernel
theorem d_GR_mixedRope_13 : decode c_GR_mixedRope 13 = .ok (.iconst 0, 1) := by decide +kernel
theorem d_GR_mixedRope_14 : decode c_GR_mixedRope 14 = .ok (.istore 7, 2) := by decide +kernel
theorem d_GR_mixedRope_16 : decode c_GR_mixedRope 16 = .ok (.iload 7, 2) := by decide +kernel
theorem d_GR_mixedRope_18 : decode c_GR_mixedRope 18 = .ok (.bipush 7, 2) := by decide +kernel
theorem d_GR_mixedRope_20 : decode c_GR_mixedRope 20 = .ok (.if_icmp .ge 24, 3) := by decide +kernel
theorem d_GR_mixedRope_23 : decode c_GR_mixedRope 23 = .ok (.lload 4, 2) := by decide +kernel
theorem d_GR_mixedRope_25 : decode c_GR_mixedRope 25 = .ok (.aload 6, 2) := by decide +kernel
theorem d_GR_mixedRope_27 : decode c_GR_mixedRope 27 = .ok (.iload 7, 2) := by decide +kernel
theorem d_GR_mixedRope_29 : decode c_GR_mixedRope 29 = .ok (.invokevirtual 108, 3) := by decide +kernel
theorem d_GR_mixedRope_32 : decode c_GR_mixedRope 32 = .ok (.i2l, 1) := by decide +kernel
theorem d_GR_mixedRope_33 : decode c_GR_mixedRope 33 = .ok (.invokestatic 312, 3) := by decide +kernel
theorem d_GR_mixedRope_36 : decode c_GR_mixedRope 36 = .ok (.lstore 4, 2) := by decide +kernel
theorem d_GR_mixedRope_38 : decode c_GR_mixedRope 38 = .ok (.iinc 7 1, 3) := by decide +kernel
theorem d_GR_mixedRope_41 : decode c_GR_mixedRope 41 = .ok (.goto (-25), 3) := by decide +kernel
theorem d_GR_mixedRope_44 : decode c_GR_mixedRope 44 = .ok (.lload 4, 2) := by decide +kernel
theorem d_GR_mixedRope_46 : decode c_GR_mixedRope 46 = .ok (.aload_n 0, 1) := by decide +kernel
theorem d_GR_mixedRope_47 : decode c_GR_mixedRope 47 = .ok (.getfield 35, 3) := by decide +kernel
theorem d_GR_mixedRope_50 : decode c_GR_mixedRope 50 = .ok (.iload_n 3, 1) := by decide +kernel
theorem d_GR_mixedRope_51 : decode c_GR_mixedRope 51 = .ok (.invokevirtual 198, 3) := by decide +kernel
theorem d_GR_mixedRope_54 : decode c_GR_mixedRope 54 = .ok (.i2l, 1) := by decide +kernel
theorem d_GR_mixedRope_55 : decode c_GR_mixedRope 55 = .ok (.invokestatic 312, 3) := by decide +kernel
theorem d_GR_mixedRope_58 : decode c_GR_mixedRope 58 = .ok (.lstore 4, 2) := by decide +kernel
theorem d_GR_mixedRope_60 : decode c_GR_mixedRope 60 = .ok (.lload 4, 2) := by decide +kernel
theorem d_GR_mixedRope_62 : decode c_GR_mixedRope 62 = .ok (.aload_n 0, 1) := by decide +kernel
theorem d_GR_mixedRope_63 : decode c_GR_mixedRope 63 = .ok (.getfield 35, 3) := by decide +kernel
theorem d_GR_mixedRope_66 : decode c_GR_mixedRope 66 = .ok (.iload_n 3, 1) := by decide +kernel
theorem d_GR_mixedRope_67 : decode c_GR_mixedRope 67 = .ok (.aload_n 0, 1) := by decide +kernel
theorem d_GR_mixedRope_68 : decode c_GR_mixedRope 68 = .ok (.getfield 28, 3) := by decide +kernel
theorem d_GR_mixedRope_71 : decode c_GR_mixedRope 71 = .ok (.iconst 1, 1) := by decide +kernel
theorem d_GR_mixedRope_72 : decode c_GR_mixedRope 72 = .ok (.iaload, 1) := by decide +kernel
theorem d_GR_mixedRope_73 : decode c_GR_mixedRope 73 = .ok (.invokevirtual 201, 3) := by decide +kernel
theorem d_GR_mixedRope_76 : decode c_GR_mixedRope 76 = .ok (.i2l, 1) := by decide +kernel
theorem d_GR_mixedRope_77 : decode c_GR_mixedRope 77 = .ok (.invokestatic 312, 3) := by decide +kernel
theorem d_GR_mixedRope_80 : decode c_GR_mixedRope 80 = .ok (.lstore 4, 2) := by decide +kernel
theorem d_GR_mixedRope_82 : decode c_GR_mixedRope 82 = .ok (.lload 4, 2) := by decide +kernel
theorem d_GR_mixedRope_84 : decode c_GR_mixedRope 84 = .ok (.aload_n 0, 1) := by decide +kernel
theorem d_GR_mixedRope_85 : decode c_GR_mixedRope 85 = .ok (.iload_n 3, 1) := by decide +kernel
theorem d_GR_mixedRope_86 : decode c_GR_mixedRope 86 = .ok (.invokevirtual 239, 3) := by decide +kernel
theorem d_GR_mixedRope_89 : decode c_GR_mixedRope 89 = .ok (.i2l, 1) := by decide +kernel
theorem d_GR_mixedRope_90 : decode c_GR_mixedRope 90 = .ok (.invokestatic 312, 3) := by decide +kernel
theorem d_GR_mixedRope_93 : decode c_GR_mixedRope 93 = .ok (.lstore 4, 2) := by decide +kernel
theorem d_GR_mixedRope_95 : decode c_GR_mixedRope 95 = .ok (.aload_n 0, 1) := by decide +kernel
theorem d_GR_mixedRope_96 : decode c_GR_mixedRope 96 = .ok (.getfield 24, 3) := by decide +kernel
theorem d_GR_mixedRope_99 : decode c_GR_mixedRope 99 = .ok (.getfield 245, 3) := by decide +kernel
theorem d_GR_mixedRope_102 : decode c_GR_mixedRope 102 = .ok (.iconst 2, 1) := by decide +kernel
theorem d_GR_mixedRope_103 : decode c_GR_mixedRope 103 = .ok (.if_icmp .ge 6, 3) := by decide +kernel
theorem d_GR_mixedRope_106 : decode c_GR_mixedRope 106 = .ok (.lload 4, 2) := by decide +kernel
theorem d_GR_mixedRope_108 : decode c_GR_mixedRope 108 = .ok (.lreturn, 1) := by decide +kernel
theorem d_GR_mixedRope_109 : decode c_GR_mixedRope 109 = .ok (.iload_n 3, 1) := by decide +kernel
theorem d_GR_mixedRope_110 : decode c_GR_mixedRope 110 = .ok (.iconst 1, 1) := by decide +kernel
theorem d_GR_mixedRope_111 : decode c_GR_mixedRope 111 = .ok (.iadd, 1) := by decide +kernel
theorem d_GR_mixedRope_112 : decode c_GR_mixedRope 112 = .ok (.aload_n 0, 1) := by decide +kernel
theorem d_GR_mixedRope_113 : decode c_GR_mixedRope 113 = .ok (.getfield 24, 3) := by decide +kernel
theorem d_GR_mixedRope_116 : decode c_GR_mixedRope 116 = .ok (.getfield 245, 3) := by decide +kernel
theorem d_GR_mixedRope_119 : decode c_GR_mixedRope 119 = .ok (.if_icmp .ge 9, 3) := by decide +kernel
theorem d_GR_mixedRope_122 : decode c_GR_mixedRope 122 = .ok (.iload_n 3, 1) := by decide +kernel
theorem d_GR_mixedRope_123 : decode c_GR_mixedRope 123 = .ok (.iconst 1, 1) := by decide +kernel
theorem d_GR_mixedRope_124 : decode c_GR_mixedRope 124 = .ok (.iadd, 1) := by decide +kernel
theorem d_GR_mixedRope_125 : decode c_GR_mixedRope 125 = .ok (.goto 4, 3) := by decide +kernel
theorem d_GR_mixedRope_128 : decode c_GR_mixedRope 128 = .ok (.iconst 0, 1) := by decide +kernel
theorem d_GR_mixedRope_129 : decode c_GR_mixedRope 129 = .ok (.istore 7, 2) := by decide +kernel
theorem d_GR_mixedRope_131 : decode c_GR_mixedRope 131 = .ok (.iconst 0, 1) := by decide +kernel
theorem d_GR_mixedRope_132 : decode c_GR_mixedRope 132 = .ok (.istore 8, 2) := by decide +kernel
theorem d_GR_mixedRope_134 : decode c_GR_mixedRope 134 = .ok (.iload 8, 2) := by decide +kernel
theorem d_GR_mixedRope_136 : decode c_GR_mixedRope 136 = .ok (.iconst 2, 1) := by decide +kernel
theorem d_GR_mixedRope_137 : decode c_GR_mixedRope 137 = .ok (.if_icmp .ge 43, 3) := by decide +kernel
theorem d_GR_mixedRope_140 : decode c_GR_mixedRope 140 = .ok (.lload 4, 2) := by decide +kernel
theorem d_GR_mixedRope_142 : decode c_GR_mixedRope 142 = .ok (.aload_n 0, 1) := by decide +kernel
theorem d_GR_mixedRope_143 : decode c_GR_mixedRope 143 = .ok (.iload_n 3, 1) := by decide +kernel
theorem d_GR_mixedRope_144 : decode c_GR_mixedRope 144 = .ok (.iload 7, 2) := by decide +kernel
theorem d_GR_mixedRope_146 : decode c_GR_mixedRope 146 = .ok (.iload 8, 2) := by decide +kernel
theorem d_GR_mixedRope_148 : decode c_GR_mixedRope 148 = .ok (.iconst 0, 1) := by decide +kernel
theorem d_GR_mixedRope_149 : decode c_GR_mixedRope 149 = .ok (.invokevirtual 129, 3) := by decide +kernel
theorem d_GR_mixedRope_152 : decode c_GR_mixedRope 152 = .ok (.invokestatic 312, 3) := by decide +kernel
theorem d_GR_mixedRope_155 : decode c_GR_mixedRope 155 = .ok (.lstore 4, 2) := by decide +kernel
theorem d_GR_mixedRope_157 : decode c_GR_mixedRope 157 = .ok (.lload 4, 2) := by decide +kernel
theorem d_GR_mixedRope_159 : decode c_GR_mixedRope 159 = .ok (.aload_n 0, 1) := by decide +kernel
theorem d_GR_mixedRope_160 : decode c_GR_mixedRope 160 = .ok (.iload_n 3, 1) := by decide +kernel
theorem d_GR_mixedRope_161 : decode c_GR_mixedRope 161 = .ok (.iload 7, 2) := by decide +kernel
theorem d_GR_mixedRope_163 : decode c_GR_mixedRope 163 = .ok (.iload 8, 2) := by decide +kernel
theorem d_GR_mixedRope_165 : decode c_GR_mixedRope 165 = .ok (.iconst 1, 1) := by decide +kernel
theorem d_GR_mixedRope_166 : decode c_GR_mixedRope 166 = .ok (.invokevirtual 129, 3) := by decide +kernel
theorem d_GR_mixedRope_169 : decode c_GR_mixedRope 169 = .ok (.invokestatic 312, 3) := by decide +kernel
theorem d_GR_mixedRope_172 : decode c_GR_mixedRope 172 = .ok (.lstore 4, 2) := by decide +kernel
theorem d_GR_mixedRope_174 : decode c_GR_mixedRope 174 = .ok (.iinc 8 1, 3) := by decide +kernel
theorem d_GR_mixedRope_177 : decode c_GR_mixedRope 177 = .ok (.goto (-43), 3) := by decide +kernel
theorem d_GR_mixedRope_180 : decode c_GR_mixedRope 180 = .ok (.lload 4, 2) := by decide +kernel
theorem d_GR_mixedRope_182 : decode c_GR_mixedRope 182 = .ok (.lreturn, 1) := by decide +kernel
def f_Fe_allFares_5 : Nat → Sg → Int32 → Int32 → Option Int32
  | 0, _, _, _ => none
  | n + 1, σ, v3, v4 =>
    if (σ.1 18 2) ≤ v4 then some v3 else f_Fe_allFares_5 n σ (v3 + (f_Fe_fareOf σ (f_Ts_at v4))) (v4 + 1)
theorem f_Fe_allFares_5_s (n : Nat) (σ : Sg) (v3 : Int32) (v4 : Int32) : f_Fe_allFares_5 (n + 1) σ v3 v4 =
    if (σ.1 18 2) ≤ v4 then some v3 else f_Fe_allFares_5 n σ (v3 + (f_Fe_fareOf σ (f_Ts_at v4))) (v4 + 1) := rfl
set_option maxHeartbeats 4000000 in
theorem j_Fe_allFares_5 {V : Vx} {X : Xx} {σ : Sg} {r : Int32}  : ∀ (n : Nat) (v3 : Int32) (v4 : Int32), f_Fe_allFares_5 n σ v3 v4 = some r → J V X (k2_rm 3 64) c_Fe_allFares R_Fe 5 (some .int) (Qr V X (some (.int r)) σ) σ 5 [(1, rf V 5), (2, rf V 18), (3, .int v3), (4, .int v4)] [] := by
  intro n
  induction n with
  | zero => intro v3 v4 hf; exact nn hf
  | succ n ih =>
    intro v3 v4 hf
    rw [f_Fe_allFares_5_s] at hf
    refine J_iload (pc' := 7) d_Fe_allFares_5 rfl 3 rfl ?_
    refine J_aload_n (pc' := 8) d_Fe_allFares_7 rfl 1 rfl ?_
    refine J_getI (pc' := 11) d_Fe_allFares_8 rfl sh_18 fl_Fe_53 rfl ?_
    refine J_icmp_ge (pc' := 14) (tgt := 33) d_Fe_allFares_11 rfl (by decide) (fun hc1 => ?_) (fun hc1 => ?_)
    · have hf := brT hc1 hf
      refine J_iload_n (pc' := 34) d_Fe_allFares_33 rfl 2 rfl ?_
      obtain rfl := Option.some.inj hf
      exact J_iret d_Fe_allFares_34
    · have hf := brF hc1 hf
      refine J_iload_n (pc' := 15) d_Fe_allFares_14 rfl 2 rfl ?_
      refine J_aload_n (pc' := 16) d_Fe_allFares_15 rfl 0 rfl ?_
      refine J_aload_n (pc' := 17) d_Fe_allFares_16 rfl 1 rfl ?_
      refine J_iload (pc' := 19) d_Fe_allFares_17 rfl 3 rfl ?_
      refine J_V (pc' := 22) (as := [.int v4]) (rest := [rf V 5, .int v3]) (st' := [rf V (f_Ts_at v4), rf V 5, .int v3]) d_Fe_allFares_19 rfl sh_18 rfl mv_Fe_58 (ct_Ts_at V _ σ v4) rfl rfl ⟨Nat.le_of_ble_eq_true rfl, Nat.le_of_ble_eq_true rfl⟩ ⟨rfl, rfl⟩ (Nat.le_of_ble_eq_true rfl) rfl ?_
      refine J_S (pc' := 25) (as := [rf V 5, rf V (f_Ts_at v4)]) (rest := [.int v3]) (st' := [.int (f_Fe_fareOf σ (f_Ts_at v4)), .int v3]) d_Fe_allFares_22 rfl ms_Fe_61 (ct_Fe_fareOf V _ σ (f_Ts_at v4) (is_Ts_at v4)) rfl rfl ⟨Nat.le_of_ble_eq_true rfl, Nat.le_of_ble_eq_true rfl⟩ ⟨rfl, rfl⟩ (Nat.le_of_ble_eq_true rfl) rfl ?_
      refine J_iadd (pc' := 26) d_Fe_allFares_25 rfl ?_
      refine J_istore_n (pc' := 27) (lv' := [(3, .int (v3 + (f_Fe_fareOf σ (f_Ts_at v4)))), (1, rf V 5), (2, rf V 18), (4, .int v4)]) d_Fe_allFares_26 rfl rfl (by decide) rfl ?_
      refine J_iinc (pc' := 30) (j := 3) (v := 1) (lv' := [(4, .int (v4 + 1)), (3, .int (v3 + (f_Fe_fareOf σ (f_Ts_at v4)))), (1, rf V 5), (2, rf V 18)]) d_Fe_allFares_27 rfl rfl ic_1 (by decide) rfl ?_
      refine J_goto (tgt := 5) d_Fe_allFares_30 (by decide) ?_
      refine J_pick [2, 3, 1, 0] rfl ?_
      exact ih _ _ hf
def f_Fe_allFares (σ : Sg)  : Option Int32 :=
  f_Fe_allFares_5 FU σ 0 0
set_option maxHeartbeats 4000000 in
theorem j_Fe_allFares {V : Vx} {X : Xx} {r : Int32} (σ : Sg) (hf : f_Fe_allFares σ = some r) : J V X (k2_rm 3 64) c_Fe_allFares R_Fe 5 (some .int) (Qr V X (some (.int r)) σ) σ 0 [(0, rf V 49), (1, rf V 5), (2, rf V 18)] [] := by
  unfold f_Fe_allFares at hf
  refine J_iconst (pc' := 1) (v := 0) d_Fe_allFares_0 rfl ic_0 ?_
  refine J_istore_n (pc' := 2) (lv' := [(3, .int 0), (0, rf V 49), (1, rf V 5), (2, rf V 18)]) d_Fe_allFares_1 rfl rfl (by decide) rfl ?_
  refine J_iconst (pc' := 3) (v := 0) d_Fe_allFares_2 rfl ic_0 ?_
  refine J_istore (pc' := 5) (lv' := [(4, .int 0), (3, .int 0), (0, rf V 49), (1, rf V 5), (2, rf V 18)]) d_Fe_allFares_3 rfl (by decide) rfl ?_
  refine J_pick [3, 4, 1, 0] rfl ?_
  exact j_Fe_allFares_5 FU _ _ hf
theorem ct_Fe_allFares (V : Vx) (l : Launch) (σ : Sg) {r : Int32} (hf : f_Fe_allFares σ = some r) : Ct V l y_Fe_allFares c_Fe_allFares 5 (some .int) (k2_rm 3 64) [rf V 49, rf V 5, rf V 18] σ (some (.int r)) σ := Ct.ofJ (by decide +kernel) (Nat.le_of_ble_eq_true rfl) fun X _ => j_Fe_allFares _  hf
def f_GR_count (σ : Sg) (v1 : Int32) : Option Int32 :=
  if v1 = 0 then some (σ.1 5 3) else
  if v1 = 1 then some (σ.1 1 2) else
  if v1 = 2 then some (σ.1 3 2) else
  if v1 = 3 then some (σ.1 18 2) else
  if v1 = 4 then
    (f_GR_tripsThatCount σ).bind fun r7 =>
      some r7
  else
  if v1 = 5 then some (σ.1 43 5) else
  if v1 = 6 then
    (f_Rs_pairsThatMeet σ).bind fun r11 =>
      some r11
  else
  if v1 = 7 then
    (f_Fe_allFares σ).bind fun r14 =>
      some r14
  else
  if v1 = 8 then some (σ.1 54 2) else
    some (-2)
set_option maxHeartbeats 4000000 in
theorem j_GR_count {V : Vx} {X : Xx} {r : Int32} (σ : Sg) (v1 : Int32) (hf : f_GR_count σ v1 = some r) : J V X (k2_rm 4 88) c_GR_count R_GR 2 (some .int) (Qr V X (some (.int r)) σ) σ 0 [(0, rf V 0), (1, .int v1)] [] := by
  unfold f_GR_count at hf
  refine J_iload_n (pc' := 1) d_GR_count_0 rfl 1 rfl ?_
  by_cases hc1 : v1 = 0
  · have hf := brT hc1 hf
    refine J_tsIn (tgt := 52) (off := 51) 0 d_GR_count_1 (by rw [hc1]; decide) (by decide) (by decide) rfl (by decide) ?_
    refine J_aload_n (pc' := 53) d_GR_count_52 rfl 0 rfl ?_
    refine J_getR (pc' := 56) d_GR_count_53 rfl sh_0 fl_GR_24 rfl ?_
    refine J_getI (pc' := 59) d_GR_count_56 rfl sh_5 fl_GR_245 rfl ?_
    obtain rfl := Option.some.inj hf
    exact J_iret d_GR_count_59
  · have hf := brF hc1 hf
    by_cases hc2 : v1 = 1
    · have hf := brT hc2 hf
      refine J_tsIn (tgt := 60) (off := 59) 1 d_GR_count_1 (by rw [hc2]; decide) (by decide) (by decide) rfl (by decide) ?_
      refine J_aload_n (pc' := 61) d_GR_count_60 rfl 0 rfl ?_
      refine J_getR (pc' := 64) d_GR_count_61 rfl sh_0 fl_GR_14 rfl ?_
      refine J_getI (pc' := 67) d_GR_count_64 rfl sh_1 fl_GR_86 rfl ?_
      obtain rfl := Option.some.inj hf
      exact J_iret d_GR_count_67
    · have hf := brF hc2 hf
      by_cases hc3 : v1 = 2
      · have hf := brT hc3 hf
        refine J_tsIn (tgt := 68) (off := 67) 2 d_GR_count_1 (by rw [hc3]; decide) (by decide) (by decide) rfl (by decide) ?_
        refine J_aload_n (pc' := 69) d_GR_count_68 rfl 0 rfl ?_
        refine J_getR (pc' := 72) d_GR_count_69 rfl sh_0 fl_GR_18 rfl ?_
        refine J_getI (pc' := 75) d_GR_count_72 rfl sh_3 fl_GR_86 rfl ?_
        obtain rfl := Option.some.inj hf
        exact J_iret d_GR_count_75
      · have hf := brF hc3 hf
        by_cases hc4 : v1 = 3
        · have hf := brT hc4 hf
          refine J_tsIn (tgt := 76) (off := 75) 3 d_GR_count_1 (by rw [hc4]; decide) (by decide) (by decide) rfl (by decide) ?_
          refine J_aload_n (pc' := 77) d_GR_count_76 rfl 0 rfl ?_
          refine J_getR (pc' := 80) d_GR_count_77 rfl sh_0 fl_GR_35 rfl ?_
          refine J_getI (pc' := 83) d_GR_count_80 rfl sh_18 fl_GR_154 rfl ?_
          obtain rfl := Option.some.inj hf
          exact J_iret d_GR_count_83
        · have hf := brF hc4 hf
          by_cases hc5 : v1 = 4
          · have hf := brT hc5 hf
            refine J_tsIn (tgt := 84) (off := 83) 4 d_GR_count_1 (by rw [hc5]; decide) (by decide) (by decide) rfl (by decide) ?_
            refine J_aload_n (pc' := 85) d_GR_count_84 rfl 0 rfl ?_
            obtain ⟨r7, hq6, hf⟩ := bpE hf
            refine J_V (pc' := 88) (as := []) (rest := []) (st' := [.int r7]) d_GR_count_85 rfl sh_0 rfl mv_GR_295 (ct_GR_tripsThatCount V _ σ hq6) rfl rfl ⟨Nat.le_of_ble_eq_true rfl, Nat.le_of_ble_eq_true rfl⟩ ⟨rfl, rfl⟩ (Nat.le_of_ble_eq_true rfl) rfl ?_
            obtain rfl := Option.some.inj hf
            exact J_iret d_GR_count_88
          · have hf := brF hc5 hf
            by_cases hc8 : v1 = 5
            · have hf := brT hc8 hf
              refine J_tsIn (tgt := 89) (off := 88) 5 d_GR_count_1 (by rw [hc8]; decide) (by decide) (by decide) rfl (by decide) ?_
              refine J_aload_n (pc' := 90) d_GR_count_89 rfl 0 rfl ?_
              refine J_getR (pc' := 93) d_GR_count_90 rfl sh_0 fl_GR_49 rfl ?_
              refine J_getI (pc' := 96) d_GR_count_93 rfl sh_43 fl_GR_230 rfl ?_
              obtain rfl := Option.some.inj hf
              exact J_iret d_GR_count_96
            · have hf := brF hc8 hf
              by_cases hc9 : v1 = 6
              · have hf := brT hc9 hf
                refine J_tsIn (tgt := 97) (off := 96) 6 d_GR_count_1 (by rw [hc9]; decide) (by decide) (by decide) rfl (by decide) ?_
                refine J_aload_n (pc' := 98) d_GR_count_97 rfl 0 rfl ?_
                refine J_getR (pc' := 101) d_GR_count_98 rfl sh_0 fl_GR_24 rfl ?_
                obtain ⟨r11, hq10, hf⟩ := bpE hf
                refine J_V (pc' := 104) (as := []) (rest := []) (st' := [.int r11]) d_GR_count_101 rfl sh_5 rfl mv_GR_298 (ct_Rs_pairsThatMeet V _ σ hq10) rfl rfl ⟨Nat.le_of_ble_eq_true rfl, Nat.le_of_ble_eq_true rfl⟩ ⟨rfl, rfl⟩ (Nat.le_of_ble_eq_true rfl) rfl ?_
                obtain rfl := Option.some.inj hf
                exact J_iret d_GR_count_104
              · have hf := brF hc9 hf
                by_cases hc12 : v1 = 7
                · have hf := brT hc12 hf
                  refine J_tsIn (tgt := 105) (off := 104) 7 d_GR_count_1 (by rw [hc12]; decide) (by decide) (by decide) rfl (by decide) ?_
                  refine J_aload_n (pc' := 106) d_GR_count_105 rfl 0 rfl ?_
                  refine J_getR (pc' := 109) d_GR_count_106 rfl sh_0 fl_GR_56 rfl ?_
                  refine J_aload_n (pc' := 110) d_GR_count_109 rfl 0 rfl ?_
                  refine J_getR (pc' := 113) d_GR_count_110 rfl sh_0 fl_GR_24 rfl ?_
                  refine J_aload_n (pc' := 114) d_GR_count_113 rfl 0 rfl ?_
                  refine J_getR (pc' := 117) d_GR_count_114 rfl sh_0 fl_GR_35 rfl ?_
                  obtain ⟨r14, hq13, hf⟩ := bpE hf
                  refine J_V (pc' := 120) (as := [rf V 5, rf V 18]) (rest := []) (st' := [.int r14]) d_GR_count_117 rfl sh_49 rfl mv_GR_301 (ct_Fe_allFares V _ σ hq13) rfl rfl ⟨Nat.le_of_ble_eq_true rfl, Nat.le_of_ble_eq_true rfl⟩ ⟨rfl, rfl⟩ (Nat.le_of_ble_eq_true rfl) rfl ?_
                  obtain rfl := Option.some.inj hf
                  exact J_iret d_GR_count_120
                · have hf := brF hc12 hf
                  by_cases hc15 : v1 = 8
                  · have hf := brT hc15 hf
                    refine J_tsIn (tgt := 121) (off := 120) 8 d_GR_count_1 (by rw [hc15]; decide) (by decide) (by decide) rfl (by decide) ?_
                    refine J_aload_n (pc' := 122) d_GR_count_121 rfl 0 rfl ?_
                    refine J_getR (pc' := 125) d_GR_count_122 rfl sh_0 fl_GR_63 rfl ?_
                    refine J_getI (pc' := 128) d_GR_count_125 rfl sh_54 fl_GR_304 rfl ?_
                    obtain rfl := Option.some.inj hf
                    exact J_iret d_GR_count_128
                  · have hf := brF hc15 hf
                    have ehc1 := neI (z := 0) hc1 (by decide)
                    have ehc2 := neI (z := 1) hc2 (by decide)
                    have ehc3 := neI (z := 2) hc3 (by decide)
                    have ehc4 := neI (z := 3) hc4 (by decide)
                    have ehc5 := neI (z := 4) hc5 (by decide)
                    have ehc8 := neI (z := 5) hc8 (by decide)
                    have ehc9 := neI (z := 6) hc9 (by decide)
                    have ehc12 := neI (z := 7) hc12 (by decide)
                    have ehc15 := neI (z := 8) hc15 (by decide)
                    refine J_tsOut (tgt := 129) d_GR_count_1 (by omega) (by decide) ?_
                    refine J_bipush (pc' := 131) (v := (-2)) d_GR_count_129 rfl bc_m2 ?_
                    obtain rfl := Option.some.inj hf
                    exact J_iret d_GR_count_131
theorem ct_GR_count (V : Vx) (l : Launch) (σ : Sg) (v1 : Int32) {r : Int32} (hf : f_GR_count σ v1 = some r) : Ct V l y_GR_count c_GR_count 2 (some .int) (k2_rm 4 88) [rf V 0, .int v1] σ (some (.int r)) σ := Ct.ofJ (by decide +kernel) (Nat.le_of_ble_eq_true rfl) fun X _ => j_GR_count _ v1 hf
def f_GR_mixed (v0 : Int64) (v2 : Int64) : Int64 :=
  (31 * v0) + v2
set_option maxHeartbeats 4000000 in
theorem j_GR_mixed {V : Vx} {X : Xx} {r : Int64} (σ : Sg) (v0 : Int64) (v2 : Int64) (hf : f_GR_mixed v0 v2 = r) : J V X (k2_rm 0 0) c_GR_mixed R_GR 4 (some .long) (Qr V X (some (.long r)) σ) σ 0 [(0, .long v0), (2, .long v2)] [] := by
  unfold f_GR_mixed at hf
  refine J_ldc2 (pc' := 3) (v := 31) d_GR_mixed_0 rfl cw_GR_340 ?_
  refine J_lload_n (pc' := 4) d_GR_mixed_3 rfl 0 rfl ?_
  refine J_lmul (pc' := 5) d_GR_mixed_4 rfl ?_
  refine J_lload_n (pc' := 6) d_GR_mixed_5 rfl 1 rfl ?_
  refine J_ladd (pc' := 7) d_GR_mixed_6 rfl ?_
  subst hf
  exact J_lret d_GR_mixed_7
theorem ct_GR_mixed (V : Vx) (l : Launch) (σ : Sg) (v0 : Int64) (v2 : Int64) : Ct V l y_GR_mixed c_GR_mixed 4 (some .long) (k2_rm 0 0) [.long v0, .long v2] σ (some (.long (f_GR_mixed v0 v2))) σ := Ct.ofJ (by decide +kernel) (Nat.le_of_ble_eq_true rfl) fun X _ => j_GR_mixed _ v0 v2 rfl
def f_GR_mixedMill_110 : Nat → Sg → Int64 → Int32 → Option (Int64 × Sg)
  | 0, _, _, _ => none
  | n + 1, σ, v3, v5 =>
    if 3 ≤ v5 then some (v3, σ) else f_GR_mixedMill_110 n σ (f_GR_mixed v3 ((f_Mi_foundPegs σ v5).toInt64)) (v5 + 1)
theorem f_GR_mixedMill_110_s (n : Nat) (σ : Sg) (v3 : Int64) (v5 : Int32) : f_GR_mixedMill_110 (n + 1) σ v3 v5 =
    if 3 ≤ v5 then some (v3, σ) else f_GR_mixedMill_110 n σ (f_GR_mixed v3 ((f_Mi_foundPegs σ v5).toInt64)) (v5 + 1) := rfl
set_option maxHeartbeats 4000000 in
theorem j_GR_mixedMill_110 {V : Vx} {X : Xx} {r : Int64} {σ' : Sg}  : ∀ (n : Nat) (σ : Sg) (v3 : Int64) (v5 : Int32), f_GR_mixedMill_110 n σ v3 v5 = some (r, σ') → J V X (k2_rm 6 128) c_GR_mixedMill R_GR 6 (some .long) (Qr V X (some (.long r)) σ') σ 110 [(0, rf V 0), (3, .long v3), (5, .int v5)] [] := by
  intro n
  induction n with
  | zero => intro σ v3 v5 hf; exact nn hf
  | succ n ih =>
    intro σ v3 v5 hf
    rw [f_GR_mixedMill_110_s] at hf
    refine J_iload (pc' := 112) d_GR_mixedMill_110 rfl 2 rfl ?_
    refine J_iconst (pc' := 113) (v := 3) d_GR_mixedMill_112 rfl ic_3 ?_
    refine J_icmp_ge (pc' := 116) (tgt := 137) d_GR_mixedMill_113 rfl (by decide) (fun hc13 => ?_) (fun hc13 => ?_)
    · have hf := brT hc13 hf
      refine J_lload_n (pc' := 138) d_GR_mixedMill_137 rfl 1 rfl ?_
      obtain ⟨rfl, rfl⟩ := resE hf
      exact J_lret d_GR_mixedMill_138
    · have hf := brF hc13 hf
      refine J_lload_n (pc' := 117) d_GR_mixedMill_116 rfl 1 rfl ?_
      refine J_aload_n (pc' := 118) d_GR_mixedMill_117 rfl 0 rfl ?_
      refine J_getR (pc' := 121) d_GR_mixedMill_118 rfl sh_0 fl_GR_49 rfl ?_
      refine J_iload (pc' := 123) d_GR_mixedMill_121 rfl 2 rfl ?_
      refine J_V (pc' := 126) (as := [.int v5]) (rest := [.long v3]) (st' := [.int (f_Mi_foundPegs σ v5), .long v3]) d_GR_mixedMill_123 rfl sh_43 rfl mv_GR_250 (ct_Mi_foundPegs V _ σ v5) rfl rfl ⟨Nat.le_of_ble_eq_true rfl, Nat.le_of_ble_eq_true rfl⟩ ⟨rfl, rfl⟩ (Nat.le_of_ble_eq_true rfl) rfl ?_
      refine J_i2l (pc' := 127) d_GR_mixedMill_126 rfl ?_
      refine J_S (pc' := 130) (as := [.long v3, .long ((f_Mi_foundPegs σ v5).toInt64)]) (rest := []) (st' := [.long (f_GR_mixed v3 ((f_Mi_foundPegs σ v5).toInt64))]) d_GR_mixedMill_127 rfl ms_GR_312 (ct_GR_mixed V _ σ v3 ((f_Mi_foundPegs σ v5).toInt64)) rfl rfl ⟨Nat.le_of_ble_eq_true rfl, Nat.le_of_ble_eq_true rfl⟩ ⟨rfl, rfl⟩ (Nat.le_of_ble_eq_true rfl) rfl ?_
      refine J_lstore_n (pc' := 131) (lv' := [(3, .long (f_GR_mixed v3 ((f_Mi_foundPegs σ v5).toInt64))), (0, rf V 0), (5, .int v5)]) d_GR_mixedMill_130 rfl rfl (by decide) rfl ?_
      refine J_iinc (pc' := 134) (j := 2) (v := 1) (lv' := [(5, .int (v5 + 1)), (3, .long (f_GR_mixed v3 ((f_Mi_foundPegs σ v5).toInt64))), (0, rf V 0)]) d_GR_mixedMill_131 rfl rfl ic_1 (by decide) rfl ?_
      refine J_goto (tgt := 110) d_GR_mixedMill_134 (by decide) ?_
      refine J_pick [2, 1, 0] rfl ?_
      exact ih _ _ _ hf
def f_GR_mixedMill_46 : Nat → Sg → Int64 → Int32 → Option (Int64 × Sg)
  | 0, _, _, _ => none
  | n + 1, σ, v3, v5 =>
    if (σ.1 43 5) ≤ v5 then
      bd (f_GR_needed σ) fun r10 σ9 =>
        (f_Mi_seekPegs σ9 0 9 1 (σ9.1 17 2)).bind fun σ12 =>
          f_GR_mixedMill_110 FU σ12 (f_GR_mixed v3 r10.toInt64) 0
    else
      (f_GR_sentAsReckoned σ v5).bind fun r15 =>
        f_GR_mixedMill_46 n σ (f_GR_mixed v3 r15.toInt64) (v5 + 1)
theorem f_GR_mixedMill_46_s (n : Nat) (σ : Sg) (v3 : Int64) (v5 : Int32) : f_GR_mixedMill_46 (n + 1) σ v3 v5 =
    if (σ.1 43 5) ≤ v5 then
      bd (f_GR_needed σ) fun r10 σ9 =>
        (f_Mi_seekPegs σ9 0 9 1 (σ9.1 17 2)).bind fun σ12 =>
          f_GR_mixedMill_110 FU σ12 (f_GR_mixed v3 r10.toInt64) 0
    else
      (f_GR_sentAsReckoned σ v5).bind fun r15 =>
        f_GR_mixedMill_46 n σ (f_GR_mixed v3 r15.toInt64) (v5 + 1) := rfl
set_option maxHeartbeats 4000000 in
theorem j_GR_mixedMill_46 {V : Vx} {X : Xx} {r : Int64} {σ' : Sg}  : ∀ (n : Nat) (σ : Sg) (v3 : Int64) (v5 : Int32), f_GR_mixedMill_46 n σ v3 v5 = some (r, σ') → J V X (k2_rm 6 128) c_GR_mixedMill R_GR 6 (some .long) (Qr V X (some (.long r)) σ') σ 46 [(0, rf V 0), (3, .long v3), (5, .int v5)] [] := by
  intro n
  induction n with
  | zero => intro σ v3 v5 hf; exact nn hf
  | succ n ih =>
    intro σ v3 v5 hf
    rw [f_GR_mixedMill_46_s] at hf
    refine J_iload (pc' := 48) d_GR_mixedMill_46 rfl 2 rfl ?_
    refine J_aload_n (pc' := 49) d_GR_mixedMill_48 rfl 0 rfl ?_
    refine J_getR (pc' := 52) d_GR_mixedMill_49 rfl sh_0 fl_GR_49 rfl ?_
    refine J_getI (pc' := 55) d_GR_mixedMill_52 rfl sh_43 fl_GR_230 rfl ?_
    refine J_icmp_ge (pc' := 58) (tgt := 76) d_GR_mixedMill_55 rfl (by decide) (fun hc7 => ?_) (fun hc7 => ?_)
    · have hf := brT hc7 hf
      refine J_lload_n (pc' := 77) d_GR_mixedMill_76 rfl 1 rfl ?_
      refine J_aload_n (pc' := 78) d_GR_mixedMill_77 rfl 0 rfl ?_
      obtain ⟨r10, σ9, hq8, hf⟩ := bdE hf
      refine J_V (pc' := 81) (as := []) (rest := [.long v3]) (st' := [.int r10, .long v3]) d_GR_mixedMill_78 rfl sh_0 rfl mv_GR_368 (ct_GR_needed V _ σ hq8) rfl rfl ⟨Nat.le_of_ble_eq_true rfl, Nat.le_of_ble_eq_true rfl⟩ ⟨rfl, rfl⟩ (Nat.le_of_ble_eq_true rfl) rfl ?_
      refine J_i2l (pc' := 82) d_GR_mixedMill_81 rfl ?_
      refine J_S (pc' := 85) (as := [.long v3, .long r10.toInt64]) (rest := []) (st' := [.long (f_GR_mixed v3 r10.toInt64)]) d_GR_mixedMill_82 rfl ms_GR_312 (ct_GR_mixed V _ σ9 v3 r10.toInt64) rfl rfl ⟨Nat.le_of_ble_eq_true rfl, Nat.le_of_ble_eq_true rfl⟩ ⟨rfl, rfl⟩ (Nat.le_of_ble_eq_true rfl) rfl ?_
      refine J_lstore_n (pc' := 86) (lv' := [(3, .long (f_GR_mixed v3 r10.toInt64)), (0, rf V 0), (5, .int v5)]) d_GR_mixedMill_85 rfl rfl (by decide) rfl ?_
      refine J_aload_n (pc' := 87) d_GR_mixedMill_86 rfl 1 rfl ?_
      refine J_getR (pc' := 90) d_GR_mixedMill_87 rfl sh_0 fl_GR_49 rfl ?_
      refine J_aload_n (pc' := 91) d_GR_mixedMill_90 rfl 1 rfl ?_
      refine J_getR (pc' := 94) d_GR_mixedMill_91 rfl sh_0 fl_GR_24 rfl ?_
      refine J_iconst (pc' := 95) (v := 0) d_GR_mixedMill_94 rfl ic_0 ?_
      refine J_bipush (pc' := 97) (v := 9) d_GR_mixedMill_95 rfl bc_9 ?_
      refine J_iconst (pc' := 98) (v := 1) d_GR_mixedMill_97 rfl ic_1 ?_
      refine J_aload_n (pc' := 99) d_GR_mixedMill_98 rfl 1 rfl ?_
      refine J_getR (pc' := 102) d_GR_mixedMill_99 rfl sh_0 fl_GR_28 rfl ?_
      refine J_iconst (pc' := 103) (v := 2) d_GR_mixedMill_102 rfl ic_2 ?_
      refine J_ial (pc' := 104) d_GR_mixedMill_103 rfl sh_17 (vin_c (by decide)) ?_
      obtain ⟨σ12, hq11, hf⟩ := bpE hf
      refine J_V (pc' := 107) (as := [rf V 5, .int 0, .int 9, .int 1, .int (σ9.1 17 2)]) (rest := []) (st' := []) d_GR_mixedMill_104 rfl sh_43 rfl mv_GR_246 (ct_Mi_seekPegs V _ σ9 0 9 1 (σ9.1 17 2) hq11) rfl rfl ⟨Nat.le_of_ble_eq_true rfl, Nat.le_of_ble_eq_true rfl⟩ ⟨rfl, rfl⟩ (Nat.le_of_ble_eq_true rfl) rfl ?_
      refine J_iconst (pc' := 108) (v := 0) d_GR_mixedMill_107 rfl ic_0 ?_
      refine J_istore (pc' := 110) (lv' := [(5, .int 0), (3, .long (f_GR_mixed v3 r10.toInt64)), (0, rf V 0)]) d_GR_mixedMill_108 rfl (by decide) rfl ?_
      refine J_pick [2, 1, 0] rfl ?_
      exact j_GR_mixedMill_110 FU _ _ _ hf
    · have hf := brF hc7 hf
      refine J_lload_n (pc' := 59) d_GR_mixedMill_58 rfl 1 rfl ?_
      refine J_aload_n (pc' := 60) d_GR_mixedMill_59 rfl 0 rfl ?_
      refine J_iload (pc' := 62) d_GR_mixedMill_60 rfl 2 rfl ?_
      obtain ⟨r15, hq14, hf⟩ := bpE hf
      refine J_V (pc' := 65) (as := [.int v5]) (rest := [.long v3]) (st' := [.int r15, .long v3]) d_GR_mixedMill_62 rfl sh_0 rfl mv_GR_236 (ct_GR_sentAsReckoned V _ σ v5 hq14) rfl rfl ⟨Nat.le_of_ble_eq_true rfl, Nat.le_of_ble_eq_true rfl⟩ ⟨rfl, rfl⟩ (Nat.le_of_ble_eq_true rfl) rfl ?_
      refine J_i2l (pc' := 66) d_GR_mixedMill_65 rfl ?_
      refine J_S (pc' := 69) (as := [.long v3, .long r15.toInt64]) (rest := []) (st' := [.long (f_GR_mixed v3 r15.toInt64)]) d_GR_mixedMill_66 rfl ms_GR_312 (ct_GR_mixed V _ σ v3 r15.toInt64) rfl rfl ⟨Nat.le_of_ble_eq_true rfl, Nat.le_of_ble_eq_true rfl⟩ ⟨rfl, rfl⟩ (Nat.le_of_ble_eq_true rfl) rfl ?_
      refine J_lstore_n (pc' := 70) (lv' := [(3, .long (f_GR_mixed v3 r15.toInt64)), (0, rf V 0), (5, .int v5)]) d_GR_mixedMill_69 rfl rfl (by decide) rfl ?_
      refine J_iinc (pc' := 73) (j := 2) (v := 1) (lv' := [(5, .int (v5 + 1)), (3, .long (f_GR_mixed v3 r15.toInt64)), (0, rf V 0)]) d_GR_mixedMill_70 rfl rfl ic_1 (by decide) rfl ?_
      refine J_goto (tgt := 46) d_GR_mixedMill_73 (by decide) ?_
      refine J_pick [2, 1, 0] rfl ?_
      exact ih _ _ _ hf
def f_GR_mixedMill (σ : Sg) (v1 : Int64) : Option (Int64 × Sg) :=
  (f_Mi_reckon σ (-1) (σ.1 17 2)).bind fun σ2 =>
    (f_GR_sentAsReckoned σ2 (-1)).bind fun r4 =>
      (f_GR_sentAsReckoned σ2 (-2)).bind fun r6 =>
        f_GR_mixedMill_46 FU σ2 (f_GR_mixed (f_GR_mixed v1 r4.toInt64) r6.toInt64) 0
set_option maxHeartbeats 4000000 in
theorem j_GR_mixedMill {V : Vx} {X : Xx} {r : Int64} {σ' : Sg} (σ : Sg) (v1 : Int64) (hf : f_GR_mixedMill σ v1 = some (r, σ')) : J V X (k2_rm 6 128) c_GR_mixedMill R_GR 6 (some .long) (Qr V X (some (.long r)) σ') σ 0 [(0, rf V 0), (1, .long v1)] [] := by
  unfold f_GR_mixedMill at hf
  refine J_lload_n (pc' := 1) d_GR_mixedMill_0 rfl 1 rfl ?_
  refine J_lstore_n (pc' := 2) (lv' := [(3, .long v1), (0, rf V 0), (1, .long v1)]) d_GR_mixedMill_1 rfl rfl (by decide) rfl ?_
  refine J_aload_n (pc' := 3) d_GR_mixedMill_2 rfl 1 rfl ?_
  refine J_getR (pc' := 6) d_GR_mixedMill_3 rfl sh_0 fl_GR_49 rfl ?_
  refine J_aload_n (pc' := 7) d_GR_mixedMill_6 rfl 1 rfl ?_
  refine J_getR (pc' := 10) d_GR_mixedMill_7 rfl sh_0 fl_GR_24 rfl ?_
  refine J_iconst (pc' := 11) (v := (-1)) d_GR_mixedMill_10 rfl ic_m1 ?_
  refine J_aload_n (pc' := 12) d_GR_mixedMill_11 rfl 1 rfl ?_
  refine J_getR (pc' := 15) d_GR_mixedMill_12 rfl sh_0 fl_GR_28 rfl ?_
  refine J_iconst (pc' := 16) (v := 2) d_GR_mixedMill_15 rfl ic_2 ?_
  refine J_ial (pc' := 17) d_GR_mixedMill_16 rfl sh_17 (vin_c (by decide)) ?_
  obtain ⟨σ2, hq1, hf⟩ := bpE hf
  refine J_V (pc' := 20) (as := [rf V 5, .int (-1), .int (σ.1 17 2)]) (rest := []) (st' := []) d_GR_mixedMill_17 rfl sh_43 rfl mv_GR_232 (ct_Mi_reckon V _ σ (-1) (σ.1 17 2) hq1) rfl rfl ⟨Nat.le_of_ble_eq_true rfl, Nat.le_of_ble_eq_true rfl⟩ ⟨rfl, rfl⟩ (Nat.le_of_ble_eq_true rfl) rfl ?_
  refine J_lload_n (pc' := 21) d_GR_mixedMill_20 rfl 0 rfl ?_
  refine J_aload_n (pc' := 22) d_GR_mixedMill_21 rfl 1 rfl ?_
  refine J_iconst (pc' := 23) (v := (-1)) d_GR_mixedMill_22 rfl ic_m1 ?_
  obtain ⟨r4, hq3, hf⟩ := bpE hf
  refine J_V (pc' := 26) (as := [.int (-1)]) (rest := [.long v1]) (st' := [.int r4, .long v1]) d_GR_mixedMill_23 rfl sh_0 rfl mv_GR_236 (ct_GR_sentAsReckoned V _ σ2 (-1) hq3) rfl rfl ⟨Nat.le_of_ble_eq_true rfl, Nat.le_of_ble_eq_true rfl⟩ ⟨rfl, rfl⟩ (Nat.le_of_ble_eq_true rfl) rfl ?_
  refine J_i2l (pc' := 27) d_GR_mixedMill_26 rfl ?_
  refine J_S (pc' := 30) (as := [.long v1, .long r4.toInt64]) (rest := []) (st' := [.long (f_GR_mixed v1 r4.toInt64)]) d_GR_mixedMill_27 rfl ms_GR_312 (ct_GR_mixed V _ σ2 v1 r4.toInt64) rfl rfl ⟨Nat.le_of_ble_eq_true rfl, Nat.le_of_ble_eq_true rfl⟩ ⟨rfl, rfl⟩ (Nat.le_of_ble_eq_true rfl) rfl ?_
  refine J_lstore_n (pc' := 31) (lv' := [(3, .long (f_GR_mixed v1 r4.toInt64)), (0, rf V 0), (1, .long v1)]) d_GR_mixedMill_30 rfl rfl (by decide) rfl ?_
  refine J_lload_n (pc' := 32) d_GR_mixedMill_31 rfl 0 rfl ?_
  refine J_aload_n (pc' := 33) d_GR_mixedMill_32 rfl 1 rfl ?_
  refine J_bipush (pc' := 35) (v := (-2)) d_GR_mixedMill_33 rfl bc_m2 ?_
  obtain ⟨r6, hq5, hf⟩ := bpE hf
  refine J_V (pc' := 38) (as := [.int (-2)]) (rest := [.long (f_GR_mixed v1 r4.toInt64)]) (st' := [.int r6, .long (f_GR_mixed v1 r4.toInt64)]) d_GR_mixedMill_35 rfl sh_0 rfl mv_GR_236 (ct_GR_sentAsReckoned V _ σ2 (-2) hq5) rfl rfl ⟨Nat.le_of_ble_eq_true rfl, Nat.le_of_ble_eq_true rfl⟩ ⟨rfl, rfl⟩ (Nat.le_of_ble_eq_true rfl) rfl ?_
  refine J_i2l (pc' := 39) d_GR_mixedMill_38 rfl ?_
  refine J_S (pc' := 42) (as := [.long (f_GR_mixed v1 r4.toInt64), .long r6.toInt64]) (rest := []) (st' := [.long (f_GR_mixed (f_GR_mixed v1 r4.toInt64) r6.toInt64)]) d_GR_mixedMill_39 rfl ms_GR_312 (ct_GR_mixed V _ σ2 (f_GR_mixed v1 r4.toInt64) r6.toInt64) rfl rfl ⟨Nat.le_of_ble_eq_true rfl, Nat.le_of_ble_eq_true rfl⟩ ⟨rfl, rfl⟩ (Nat.le_of_ble_eq_true rfl) rfl ?_
  refine J_lstore_n (pc' := 43) (lv' := [(3, .long (f_GR_mixed (f_GR_mixed v1 r4.toInt64) r6.toInt64)), (0, rf V 0), (1, .long v1)]) d_GR_mixedMill_42 rfl rfl (by decide) rfl ?_
  refine J_iconst (pc' := 44) (v := 0) d_GR_mixedMill_43 rfl ic_0 ?_
  refine J_istore (pc' := 46) (lv' := [(5, .int 0), (3, .long (f_GR_mixed (f_GR_mixed v1 r4.toInt64) r6.toInt64)), (0, rf V 0), (1, .long v1)]) d_GR_mixedMill_44 rfl (by decide) rfl ?_
  refine J_pick [2, 1, 0] rfl ?_
  exact j_GR_mixedMill_46 FU _ _ _ hf
theorem ct_GR_mixedMill (V : Vx) (l : Launch) (σ : Sg) (v1 : Int64) {r : Int64} {σ' : Sg} (hf : f_GR_mixedMill σ v1 = some (r, σ')) : Ct V l y_GR_mixedMill c_GR_mixedMill 6 (some .long) (k2_rm 6 128) [rf V 0, .long v1] σ (some (.long r)) σ' := Ct.ofJ (by decide +kernel) (Nat.le_of_ble_eq_true rfl) fun X _ => j_GR_mixedMill _ v1 hf
def f_GR_mixedRope_134 : Nat → Sg → Int32 → Int64 → Int32 → Int32 → Option (Int64 × Sg)
  | 0, _, _, _, _, _ => none
  | n + 1, σ, v3, v4, v7, v8 =>
    if 2 ≤ v8 then
      some (v4, σ)
    else
      (f_GR_crossingAsTold σ v3 v7 v8 0).bind fun r13 =>
        (f_GR_crossingAsTold σ v3 v7 v8 1).bind fun r15 =>
          f_GR_mixedRope_134 n σ v3 (f_GR_mixed (f_GR_mixed v4 r13) r15) v7 (v8 + 1)
theorem f_GR_mixedRope_134_s (n : Nat) (σ : Sg) (v3 : Int32) (v4 : Int64) (v7 : Int32) (v8 : Int32) : f_GR_mixedRope_134 (n + 1) σ v3 v4 v7 v8 =
    if 2 ≤ v8 then
      some (v4, σ)
    else
      (f_GR_crossingAsTold σ v3 v7 v8 0).bind fun r13 =>
        (f_GR_crossingAsTold σ v3 v7 v8 1).bind fun r15 =>
          f_GR_mixedRope_134 n σ v3 (f_GR_mixed (f_GR_mixed v4 r13) r15) v7 (v8 + 1) := rfl
set_option maxHeartbeats 4000000 in
theorem j_GR_mixedRope_134 {V : Vx} {X : Xx} {r : Int64} {σ' : Sg}  : ∀ (n : Nat) (σ : Sg) (v3 : Int32) (v4 : Int64) (v7 : Int32) (v8 : Int32), f_GR_mixedRope_134 n σ v3 v4 v7 v8 = some (r, σ') → J V X (k2_rm 5 120) c_GR_mixedRope R_GR 9 (some .long) (Qr V X (some (.long r)) σ') σ 134 [(0, rf V 0), (3, .int v3), (4, .long v4), (7, .int v7), (8, .int v8)] [] := by
  intro n
  induction n with
  | zero => intro σ v3 v4 v7 v8 hf; exact nn hf
  | succ n ih =>
    intro σ v3 v4 v7 v8 hf
    rw [f_GR_mixedRope_134_s] at hf
    refine J_iload (pc' := 136) d_GR_mixedRope_134 rfl 4 rfl ?_
    refine J_iconst (pc' := 137) (v := 2) d_GR_mixedRope_136 rfl ic_2 ?_
    refine J_icmp_ge (pc' := 140) (tgt := 180) d_GR_mixedRope_137 rfl (by decide) (fun hc11 => ?_) (fun hc11 => ?_)
    · have hf := brT hc11 hf
      refine J_lload (pc' := 182) d_GR_mixedRope_180 rfl 2 rfl ?_
      obtain ⟨rfl, rfl⟩ := resE hf
      exact J_lret d_GR_mixedRope_182
    · have hf := brF hc11 hf
      refine J_lload (pc' := 142) d_GR_mixedRope_140 rfl 2 rfl ?_
      refine J_aload_n (pc' := 143) d_GR_mixedRope_142 rfl 0 rfl ?_
      refine J_iload_n (pc' := 144) d_GR_mixedRope_143 rfl 1 rfl ?_
      refine J_iload (pc' := 146) d_GR_mixedRope_144 rfl 3 rfl ?_
      refine J_iload (pc' := 148) d_GR_mixedRope_146 rfl 4 rfl ?_
      refine J_iconst (pc' := 149) (v := 0) d_GR_mixedRope_148 rfl ic_0 ?_
      obtain ⟨r13, hq12, hf⟩ := bpE hf
      refine J_V (pc' := 152) (as := [.int v3, .int v7, .int v8, .int 0]) (rest := [.long v4]) (st' := [.long r13, .long v4]) d_GR_mixedRope_149 rfl sh_0 rfl mv_GR_129 (ct_GR_crossingAsTold V _ σ v3 v7 v8 0 hq12) rfl rfl ⟨Nat.le_of_ble_eq_true rfl, Nat.le_of_ble_eq_true rfl⟩ ⟨rfl, rfl⟩ (Nat.le_of_ble_eq_true rfl) rfl ?_
      refine J_S (pc' := 155) (as := [.long v4, .long r13]) (rest := []) (st' := [.long (f_GR_mixed v4 r13)]) d_GR_mixedRope_152 rfl ms_GR_312 (ct_GR_mixed V _ σ v4 r13) rfl rfl ⟨Nat.le_of_ble_eq_true rfl, Nat.le_of_ble_eq_true rfl⟩ ⟨rfl, rfl⟩ (Nat.le_of_ble_eq_true rfl) rfl ?_
      refine J_lstore (pc' := 157) (lv' := [(4, .long (f_GR_mixed v4 r13)), (0, rf V 0), (3, .int v3), (7, .int v7), (8, .int v8)]) d_GR_mixedRope_155 rfl (by decide) rfl ?_
      refine J_lload (pc' := 159) d_GR_mixedRope_157 rfl 0 rfl ?_
      refine J_aload_n (pc' := 160) d_GR_mixedRope_159 rfl 1 rfl ?_
      refine J_iload_n (pc' := 161) d_GR_mixedRope_160 rfl 2 rfl ?_
      refine J_iload (pc' := 163) d_GR_mixedRope_161 rfl 3 rfl ?_
      refine J_iload (pc' := 165) d_GR_mixedRope_163 rfl 4 rfl ?_
      refine J_iconst (pc' := 166) (v := 1) d_GR_mixedRope_165 rfl ic_1 ?_
      obtain ⟨r15, hq14, hf⟩ := bpE hf
      refine J_V (pc' := 169) (as := [.int v3, .int v7, .int v8, .int 1]) (rest := [.long (f_GR_mixed v4 r13)]) (st' := [.long r15, .long (f_GR_mixed v4 r13)]) d_GR_mixedRope_166 rfl sh_0 rfl mv_GR_129 (ct_GR_crossingAsTold V _ σ v3 v7 v8 1 hq14) rfl rfl ⟨Nat.le_of_ble_eq_true rfl, Nat.le_of_ble_eq_true rfl⟩ ⟨rfl, rfl⟩ (Nat.le_of_ble_eq_true rfl) rfl ?_
      refine J_S (pc' := 172) (as := [.long (f_GR_mixed v4 r13), .long r15]) (rest := []) (st' := [.long (f_GR_mixed (f_GR_mixed v4 r13) r15)]) d_GR_mixedRope_169 rfl ms_GR_312 (ct_GR_mixed V _ σ (f_GR_mixed v4 r13) r15) rfl rfl ⟨Nat.le_of_ble_eq_true rfl, Nat.le_of_ble_eq_true rfl⟩ ⟨rfl, rfl⟩ (Nat.le_of_ble_eq_true rfl) rfl ?_
      refine J_lstore (pc' := 174) (lv' := [(4, .long (f_GR_mixed (f_GR_mixed v4 r13) r15)), (0, rf V 0), (3, .int v3), (7, .int v7), (8, .int v8)]) d_GR_mixedRope_172 rfl (by decide) rfl ?_
      refine J_iinc (pc' := 177) (j := 4) (v := 1) (lv' := [(8, .int (v8 + 1)), (4, .long (f_GR_mixed (f_GR_mixed v4 r13) r15)), (0, rf V 0), (3, .int v3), (7, .int v7)]) d_GR_mixedRope_174 rfl rfl ic_1 (by decide) rfl ?_
      refine J_goto (tgt := 134) d_GR_mixedRope_177 (by decide) ?_
      refine J_pick [2, 3, 1, 4, 0] rfl ?_
      exact ih _ _ _ _ _ hf
def f_GR_mixedRope_129 (σ : Sg) (v3 : Int32) (v4 : Int64) (s0 : Int32) : Option (Int64 × Sg) :=
  f_GR_mixedRope_134 FU σ v3 v4 s0 0
set_option maxHeartbeats 4000000 in
theorem j_GR_mixedRope_129 {V : Vx} {X : Xx} {r : Int64} {σ' : Sg}  (σ : Sg) (v3 : Int32) (v4 : Int64) (s0 : Int32) (hf : f_GR_mixedRope_129 σ v3 v4 s0 = some (r, σ')) : J V X (k2_rm 5 120) c_GR_mixedRope R_GR 9 (some .long) (Qr V X (some (.long r)) σ') σ 129 [(0, rf V 0), (3, .int v3), (4, .long v4)] [.int s0] := by
  unfold f_GR_mixedRope_129 at hf
  refine J_istore (pc' := 131) (lv' := [(7, .int s0), (0, rf V 0), (3, .int v3), (4, .long v4)]) d_GR_mixedRope_129 rfl (by decide) rfl ?_
  refine J_iconst (pc' := 132) (v := 0) d_GR_mixedRope_131 rfl ic_0 ?_
  refine J_istore (pc' := 134) (lv' := [(8, .int 0), (7, .int s0), (0, rf V 0), (3, .int v3), (4, .long v4)]) d_GR_mixedRope_132 rfl (by decide) rfl ?_
  refine J_pick [2, 3, 4, 1, 0] rfl ?_
  exact j_GR_mixedRope_134 FU _ _ _ _ _ hf
def f_GR_mixedRope_16 : Nat → Sg → Int32 → Int64 → Nat → Int32 → Option (Int64 × Sg)
  | 0, _, _, _, _, _ => none
  | n + 1, σ, v3, v4, v6, v7 =>
    if 7 ≤ v7 then
      (f_Ts_frayOf σ v3).bind fun r3 =>
        (f_Ts_breakerOf σ v3 (σ.1 17 1)).bind fun r5 =>
          bd (f_GR_cutAsTold σ v3) fun r8 σ7 =>
            if 2 ≤ (σ7.1 5 3) then
              if (σ7.1 5 3) ≤ (v3 + 1) then
                f_GR_mixedRope_129 σ7 v3 (f_GR_mixed (f_GR_mixed (f_GR_mixed v4 r3.toInt64) r5.toInt64) r8.toInt64) 0
              else
                f_GR_mixedRope_129 σ7 v3 (f_GR_mixed (f_GR_mixed (f_GR_mixed v4 r3.toInt64) r5.toInt64) r8.toInt64) (v3 + 1)
            else
              some (f_GR_mixed (f_GR_mixed (f_GR_mixed v4 r3.toInt64) r5.toInt64) r8.toInt64, σ7)
    else
      f_GR_mixedRope_16 n σ v3 (f_GR_mixed v4 ((f_Ro_tell σ v6 v7).toInt64)) v6 (v7 + 1)
theorem f_GR_mixedRope_16_s (n : Nat) (σ : Sg) (v3 : Int32) (v4 : Int64) (v6 : Nat) (v7 : Int32) : f_GR_mixedRope_16 (n + 1) σ v3 v4 v6 v7 =
    if 7 ≤ v7 then
      (f_Ts_frayOf σ v3).bind fun r3 =>
        (f_Ts_breakerOf σ v3 (σ.1 17 1)).bind fun r5 =>
          bd (f_GR_cutAsTold σ v3) fun r8 σ7 =>
            if 2 ≤ (σ7.1 5 3) then
              if (σ7.1 5 3) ≤ (v3 + 1) then
                f_GR_mixedRope_129 σ7 v3 (f_GR_mixed (f_GR_mixed (f_GR_mixed v4 r3.toInt64) r5.toInt64) r8.toInt64) 0
              else
                f_GR_mixedRope_129 σ7 v3 (f_GR_mixed (f_GR_mixed (f_GR_mixed v4 r3.toInt64) r5.toInt64) r8.toInt64) (v3 + 1)
            else
              some (f_GR_mixed (f_GR_mixed (f_GR_mixed v4 r3.toInt64) r5.toInt64) r8.toInt64, σ7)
    else
      f_GR_mixedRope_16 n σ v3 (f_GR_mixed v4 ((f_Ro_tell σ v6 v7).toInt64)) v6 (v7 + 1) := rfl
set_option maxHeartbeats 4000000 in
theorem j_GR_mixedRope_16 {V : Vx} {X : Xx} {r : Int64} {σ' : Sg}  : ∀ (n : Nat) (σ : Sg) (v3 : Int32) (v4 : Int64) (v6 : Nat) (v7 : Int32) (iv6 : is_Ro v6), f_GR_mixedRope_16 n σ v3 v4 v6 v7 = some (r, σ') → J V X (k2_rm 5 120) c_GR_mixedRope R_GR 9 (some .long) (Qr V X (some (.long r)) σ') σ 16 [(0, rf V 0), (3, .int v3), (4, .long v4), (6, rf V v6), (7, .int v7)] [] := by
  intro n
  induction n with
  | zero => intro σ v3 v4 v6 v7 iv6 hf; exact nn hf
  | succ n ih =>
    intro σ v3 v4 v6 v7 iv6 hf
    rw [f_GR_mixedRope_16_s] at hf
    refine J_iload (pc' := 18) d_GR_mixedRope_16 rfl 4 rfl ?_
    refine J_bipush (pc' := 20) (v := 7) d_GR_mixedRope_18 rfl bc_7 ?_
    refine J_icmp_ge (pc' := 23) (tgt := 44) d_GR_mixedRope_20 rfl (by decide) (fun hc1 => ?_) (fun hc1 => ?_)
    · have hf := brT hc1 hf
      refine J_lload (pc' := 46) d_GR_mixedRope_44 rfl 2 rfl ?_
      refine J_aload_n (pc' := 47) d_GR_mixedRope_46 rfl 0 rfl ?_
      refine J_getR (pc' := 50) d_GR_mixedRope_47 rfl sh_0 fl_GR_35 rfl ?_
      refine J_iload_n (pc' := 51) d_GR_mixedRope_50 rfl 1 rfl ?_
      obtain ⟨r3, hq2, hf⟩ := bpE hf
      refine J_V (pc' := 54) (as := [.int v3]) (rest := [.long v4]) (st' := [.int r3, .long v4]) d_GR_mixedRope_51 rfl sh_18 rfl mv_GR_198 (ct_Ts_frayOf V _ σ v3 hq2) rfl rfl ⟨Nat.le_of_ble_eq_true rfl, Nat.le_of_ble_eq_true rfl⟩ ⟨rfl, rfl⟩ (Nat.le_of_ble_eq_true rfl) rfl ?_
      refine J_i2l (pc' := 55) d_GR_mixedRope_54 rfl ?_
      refine J_S (pc' := 58) (as := [.long v4, .long r3.toInt64]) (rest := []) (st' := [.long (f_GR_mixed v4 r3.toInt64)]) d_GR_mixedRope_55 rfl ms_GR_312 (ct_GR_mixed V _ σ v4 r3.toInt64) rfl rfl ⟨Nat.le_of_ble_eq_true rfl, Nat.le_of_ble_eq_true rfl⟩ ⟨rfl, rfl⟩ (Nat.le_of_ble_eq_true rfl) rfl ?_
      refine J_lstore (pc' := 60) (lv' := [(4, .long (f_GR_mixed v4 r3.toInt64)), (0, rf V 0), (3, .int v3), (6, rf V v6), (7, .int v7)]) d_GR_mixedRope_58 rfl (by decide) rfl ?_
      refine J_lload (pc' := 62) d_GR_mixedRope_60 rfl 0 rfl ?_
      refine J_aload_n (pc' := 63) d_GR_mixedRope_62 rfl 1 rfl ?_
      refine J_getR (pc' := 66) d_GR_mixedRope_63 rfl sh_0 fl_GR_35 rfl ?_
      refine J_iload_n (pc' := 67) d_GR_mixedRope_66 rfl 2 rfl ?_
      refine J_aload_n (pc' := 68) d_GR_mixedRope_67 rfl 1 rfl ?_
      refine J_getR (pc' := 71) d_GR_mixedRope_68 rfl sh_0 fl_GR_28 rfl ?_
      refine J_iconst (pc' := 72) (v := 1) d_GR_mixedRope_71 rfl ic_1 ?_
      refine J_ial (pc' := 73) d_GR_mixedRope_72 rfl sh_17 (vin_c (by decide)) ?_
      obtain ⟨r5, hq4, hf⟩ := bpE hf
      refine J_V (pc' := 76) (as := [.int v3, .int (σ.1 17 1)]) (rest := [.long (f_GR_mixed v4 r3.toInt64)]) (st' := [.int r5, .long (f_GR_mixed v4 r3.toInt64)]) d_GR_mixedRope_73 rfl sh_18 rfl mv_GR_201 (ct_Ts_breakerOf V _ σ v3 (σ.1 17 1) hq4) rfl rfl ⟨Nat.le_of_ble_eq_true rfl, Nat.le_of_ble_eq_true rfl⟩ ⟨rfl, rfl⟩ (Nat.le_of_ble_eq_true rfl) rfl ?_
      refine J_i2l (pc' := 77) d_GR_mixedRope_76 rfl ?_
      refine J_S (pc' := 80) (as := [.long (f_GR_mixed v4 r3.toInt64), .long r5.toInt64]) (rest := []) (st' := [.long (f_GR_mixed (f_GR_mixed v4 r3.toInt64) r5.toInt64)]) d_GR_mixedRope_77 rfl ms_GR_312 (ct_GR_mixed V _ σ (f_GR_mixed v4 r3.toInt64) r5.toInt64) rfl rfl ⟨Nat.le_of_ble_eq_true rfl, Nat.le_of_ble_eq_true rfl⟩ ⟨rfl, rfl⟩ (Nat.le_of_ble_eq_true rfl) rfl ?_
      refine J_lstore (pc' := 82) (lv' := [(4, .long (f_GR_mixed (f_GR_mixed v4 r3.toInt64) r5.toInt64)), (0, rf V 0), (3, .int v3), (6, rf V v6), (7, .int v7)]) d_GR_mixedRope_80 rfl (by decide) rfl ?_
      refine J_lload (pc' := 84) d_GR_mixedRope_82 rfl 0 rfl ?_
      refine J_aload_n (pc' := 85) d_GR_mixedRope_84 rfl 1 rfl ?_
      refine J_iload_n (pc' := 86) d_GR_mixedRope_85 rfl 2 rfl ?_
      obtain ⟨r8, σ7, hq6, hf⟩ := bdE hf
      refine J_V (pc' := 89) (as := [.int v3]) (rest := [.long (f_GR_mixed (f_GR_mixed v4 r3.toInt64) r5.toInt64)]) (st' := [.int r8, .long (f_GR_mixed (f_GR_mixed v4 r3.toInt64) r5.toInt64)]) d_GR_mixedRope_86 rfl sh_0 rfl mv_GR_239 (ct_GR_cutAsTold V _ σ v3 hq6) rfl rfl ⟨Nat.le_of_ble_eq_true rfl, Nat.le_of_ble_eq_true rfl⟩ ⟨rfl, rfl⟩ (Nat.le_of_ble_eq_true rfl) rfl ?_
      refine J_i2l (pc' := 90) d_GR_mixedRope_89 rfl ?_
      refine J_S (pc' := 93) (as := [.long (f_GR_mixed (f_GR_mixed v4 r3.toInt64) r5.toInt64), .long r8.toInt64]) (rest := []) (st' := [.long (f_GR_mixed (f_GR_mixed (f_GR_mixed v4 r3.toInt64) r5.toInt64) r8.toInt64)]) d_GR_mixedRope_90 rfl ms_GR_312 (ct_GR_mixed V _ σ7 (f_GR_mixed (f_GR_mixed v4 r3.toInt64) r5.toInt64) r8.toInt64) rfl rfl ⟨Nat.le_of_ble_eq_true rfl, Nat.le_of_ble_eq_true rfl⟩ ⟨rfl, rfl⟩ (Nat.le_of_ble_eq_true rfl) rfl ?_
      refine J_lstore (pc' := 95) (lv' := [(4, .long (f_GR_mixed (f_GR_mixed (f_GR_mixed v4 r3.toInt64) r5.toInt64) r8.toInt64)), (0, rf V 0), (3, .int v3), (6, rf V v6), (7, .int v7)]) d_GR_mixedRope_93 rfl (by decide) rfl ?_
      refine J_aload_n (pc' := 96) d_GR_mixedRope_95 rfl 1 rfl ?_
      refine J_getR (pc' := 99) d_GR_mixedRope_96 rfl sh_0 fl_GR_24 rfl ?_
      refine J_getI (pc' := 102) d_GR_mixedRope_99 rfl sh_5 fl_GR_245 rfl ?_
      refine J_iconst (pc' := 103) (v := 2) d_GR_mixedRope_102 rfl ic_2 ?_
      refine J_icmp_ge (pc' := 106) (tgt := 109) d_GR_mixedRope_103 rfl (by decide) (fun hc9 => ?_) (fun hc9 => ?_)
      · have hf := brT hc9 hf
        refine J_iload_n (pc' := 110) d_GR_mixedRope_109 rfl 2 rfl ?_
        refine J_iconst (pc' := 111) (v := 1) d_GR_mixedRope_110 rfl ic_1 ?_
        refine J_iadd (pc' := 112) d_GR_mixedRope_111 rfl ?_
        refine J_aload_n (pc' := 113) d_GR_mixedRope_112 rfl 1 rfl ?_
        refine J_getR (pc' := 116) d_GR_mixedRope_113 rfl sh_0 fl_GR_24 rfl ?_
        refine J_getI (pc' := 119) d_GR_mixedRope_116 rfl sh_5 fl_GR_245 rfl ?_
        refine J_icmp_ge (pc' := 122) (tgt := 128) d_GR_mixedRope_119 rfl (by decide) (fun hc10 => ?_) (fun hc10 => ?_)
        · have hf := brT hc10 hf
          refine J_iconst (pc' := 129) (v := 0) d_GR_mixedRope_128 rfl ic_0 ?_
          refine J_pick [1, 2, 0] rfl ?_
          exact j_GR_mixedRope_129 _ _ _ _ hf
        · have hf := brF hc10 hf
          refine J_iload_n (pc' := 123) d_GR_mixedRope_122 rfl 2 rfl ?_
          refine J_iconst (pc' := 124) (v := 1) d_GR_mixedRope_123 rfl ic_1 ?_
          refine J_iadd (pc' := 125) d_GR_mixedRope_124 rfl ?_
          refine J_goto (tgt := 129) d_GR_mixedRope_125 (by decide) ?_
          refine J_pick [1, 2, 0] rfl ?_
          exact j_GR_mixedRope_129 _ _ _ _ hf
      · have hf := brF hc9 hf
        refine J_lload (pc' := 108) d_GR_mixedRope_106 rfl 0 rfl ?_
        obtain ⟨rfl, rfl⟩ := resE hf
        exact J_lret d_GR_mixedRope_108
    · have hf := brF hc1 hf
      refine J_lload (pc' := 25) d_GR_mixedRope_23 rfl 2 rfl ?_
      refine J_aload (pc' := 27) d_GR_mixedRope_25 rfl 3 rfl ?_
      refine J_iload (pc' := 29) d_GR_mixedRope_27 rfl 4 rfl ?_
      refine J_V (pc' := 32) (as := [.int v7]) (rest := [.long v4]) (st' := [.int (f_Ro_tell σ v6 v7), .long v4]) d_GR_mixedRope_29 rfl (sh_Ro iv6) rfl mv_GR_108 (ct_Ro_tell V _ σ v6 v7 iv6) rfl rfl ⟨Nat.le_of_ble_eq_true rfl, Nat.le_of_ble_eq_true rfl⟩ ⟨rfl, rfl⟩ (Nat.le_of_ble_eq_true rfl) rfl ?_
      refine J_i2l (pc' := 33) d_GR_mixedRope_32 rfl ?_
      refine J_S (pc' := 36) (as := [.long v4, .long ((f_Ro_tell σ v6 v7).toInt64)]) (rest := []) (st' := [.long (f_GR_mixed v4 ((f_Ro_tell σ v6 v7).toInt64))]) d_GR_mixedRope_33 rfl ms_GR_312 (ct_GR_mixed V _ σ v4 ((f_Ro_tell σ v6 v7).toInt64)) rfl rfl ⟨Nat.le_of_ble_eq_true rfl, Nat.le_of_ble_eq_true rfl⟩ ⟨rfl, rfl⟩ (Nat.le_of_ble_eq_true rfl) rfl ?_
      refine J_lstore (pc' := 38) (lv' := [(4, .long (f_GR_mixed v4 ((f_Ro_tell σ v6 v7).toInt64))), (0, rf V 0), (3, .int v3), (6, rf V v6), (7, .int v7)]) d_GR_mixedRope_36 rfl (by decide) rfl ?_
      refine J_iinc (pc' := 41) (j := 4) (v := 1) (lv' := [(7, .int (v7 + 1)), (4, .long (f_GR_mixed v4 ((f_Ro_tell σ v6 v7).toInt64))), (0, rf V 0), (3, .int v3), (6, rf V v6)]) d_GR_mixedRope_38 rfl rfl ic_1 (by decide) rfl ?_
      refine J_goto (tgt := 16) d_GR_mixedRope_41 (by decide) ?_
      refine J_pick [2, 3, 1, 4, 0] rfl ?_
      exact ih _ _ _ _ _ iv6 hf
def f_GR_mixedRope (σ : Sg) (v1 : Int64) (v3 : Int32) : Option (Int64 × Sg) :=
  f_GR_mixedRope_16 FU σ v3 v1 (f_Rs_at v3) 0
set_option maxHeartbeats 4000000 in
theorem j_GR_mixedRope {V : Vx} {X : Xx} {r : Int64} {σ' : Sg} (σ : Sg) (v1 : Int64) (v3 : Int32) (hf : f_GR_mixedRope σ v1 v3 = some (r, σ')) : J V X (k2_rm 5 120) c_GR_mixedRope R_GR 9 (some .long) (Qr V X (some (.long r)) σ') σ 0 [(0, rf V 0), (1, .long v1), (3, .int v3)] [] := by
  unfold f_GR_mixedRope at hf
  refine J_lload_n (pc' := 1) d_GR_mixedRope_0 rfl 1 rfl ?_
  refine J_lstore (pc' := 3) (lv' := [(4, .long v1), (0, rf V 0), (1, .long v1), (3, .int v3)]) d_GR_mixedRope_1 rfl (by decide) rfl ?_
  refine J_aload_n (pc' := 4) d_GR_mixedRope_3 rfl 1 rfl ?_
  refine J_getR (pc' := 7) d_GR_mixedRope_4 rfl sh_0 fl_GR_24 rfl ?_
  refine J_iload_n (pc' := 8) d_GR_mixedRope_7 rfl 3 rfl ?_
  refine J_V (pc' := 11) (as := [.int v3]) (rest := []) (st' := [rf V (f_Rs_at v3)]) d_GR_mixedRope_8 rfl sh_5 rfl mv_GR_104 (ct_Rs_at V _ σ v3) rfl rfl ⟨Nat.le_of_ble_eq_true rfl, Nat.le_of_ble_eq_true rfl⟩ ⟨rfl, rfl⟩ (Nat.le_of_ble_eq_true rfl) rfl ?_
  refine J_astore (pc' := 13) (lv' := [(6, rf V (f_Rs_at v3)), (4, .long v1), (0, rf V 0), (1, .long v1), (3, .int v3)]) d_GR_mixedRope_11 rfl (by decide) rfl ?_
  refine J_iconst (pc' := 14) (v := 0) d_GR_mixedRope_13 rfl ic_0 ?_
  refine J_istore (pc' := 16) (lv' := [(7, .int 0), (6, rf V (f_Rs_at v3)), (4, .long v1), (0, rf V 0), (1, .long v1), (3, .int v3)]) d_GR_mixedRope_14 rfl (by decide) rfl ?_
  refine J_pick [3, 5, 2, 1, 0] rfl ?_
  exact j_GR_mixedRope_16 FU _ _ _ _ _ (is_Rs_at v3) hf
theorem ct_GR_mixedRope (V : Vx) (l : Launch) (σ : Sg) (v1 : Int64) (v3 : Int32) {r : Int64} {σ' : Sg} (hf : f_GR_mixedRope σ v1 v3 = some (r, σ')) : Ct V l y_GR_mixedRope c_GR_mixedRope 9 (some .long) (k2_rm 5 120) [rf V 0, .long v1, .int v3] σ (some (.long r)) σ' := Ct.ofJ (by decide +kernel) (Nat.le_of_ble_eq_true rfl) fun X _ => j_GR_mixedRope _ v1 v3 hf
