theorem d_Md_trip_0 : decode c_Md_trip 0 = .ok (.iload_n 1, 1) := by decide +kernel
theorem d_Md_trip_1 : decode c_Md_trip 1 = .ok (.i2l, 1) := by decide +kernel
theorem d_Md_trip_2 : decode c_Md_trip 2 = .ok (.lconst 0, 1) := by decide +kernel
theorem d_Md_trip_3 : decode c_Md_trip 3 = .ok (.ldc2_w 202, 3) := by decide +kernel
theorem d_Md_trip_6 : decode c_Md_trip 6 = .ok (.invokestatic 73, 3) := by decide +kernel
theorem d_Md_trip_9 : decode c_Md_trip 9 = .ok (.ifCond .eq 38, 3) := by decide +kernel
theorem d_Md_trip_12 : decode c_Md_trip 12 = .ok (.iload_n 2, 1) := by decide +kernel
theorem d_Md_trip_13 : decode c_Md_trip 13 = .ok (.invokestatic 106, 3) := by decide +kernel
theorem d_Md_trip_16 : decode c_Md_trip 16 = .ok (.ifCond .eq 31, 3) := by decide +kernel
theorem d_Md_trip_19 : decode c_Md_trip 19 = .ok (.iload_n 3, 1) := by decide +kernel
theorem d_Md_trip_20 : decode c_Md_trip 20 = .ok (.i2l, 1) := by decide +kernel
theorem d_Md_trip_21 : decode c_Md_trip 21 = .ok (.lconst 0, 1) := by decide +kernel
theorem d_Md_trip_22 : decode c_Md_trip 22 = .ok (.ldc2_w 204, 3) := by decide +kernel
theorem d_Md_trip_25 : decode c_Md_trip 25 = .ok (.invokestatic 73, 3) := by decide +kernel
theorem d_Md_trip_28 : decode c_Md_trip 28 = .ok (.ifCond .eq 19, 3) := by decide +kernel
theorem d_Md_trip_31 : decode c_Md_trip 31 = .ok (.iload 4, 2) := by decide +kernel
theorem d_Md_trip_33 : decode c_Md_trip 33 = .ok (.invokestatic 189, 3) := by decide +kernel
theorem d_Md_trip_36 : decode c_Md_trip 36 = .ok (.ifCond .eq 11, 3) := by decide +kernel
theorem d_Md_trip_39 : decode c_Md_trip 39 = .ok (.iload 5, 2) := by decide +kernel
theorem d_Md_trip_41 : decode c_Md_trip 41 = .ok (.invokestatic 206, 3) := by decide +kernel
theorem d_Md_trip_44 : decode c_Md_trip 44 = .ok (.ifCond .ne 6, 3) := by decide +kernel
theorem d_Md_trip_47 : decode c_Md_trip 47 = .ok (.bipush (-2), 2) := by decide +kernel
theorem d_Md_trip_49 : decode c_Md_trip 49 = .ok (.ireturn, 1) := by decide +kernel
theorem d_Md_trip_50 : decode c_Md_trip 50 = .ok (.aload_n 0, 1) := by decide +kernel
theorem d_Md_trip_51 : decode c_Md_trip 51 = .ok (.getfield 209, 3) := by decide +kernel
theorem d_Md_trip_54 : decode c_Md_trip 54 = .ok (.bipush 20, 2) := by decide +kernel
theorem d_Md_trip_56 : decode c_Md_trip 56 = .ok (.if_icmp .ne 6, 3) := by decide +kernel
theorem d_Md_trip_59 : decode c_Md_trip 59 = .ok (.bipush (-4), 2) := by decide +kernel
theorem d_Md_trip_61 : decode c_Md_trip 61 = .ok (.ireturn, 1) := by decide +kernel
theorem d_Md_trip_62 : decode c_Md_trip 62 = .ok (.aload_n 0, 1) := by decide +kernel
theorem d_Md_trip_63 : decode c_Md_trip 63 = .ok (.getfield 37, 3) := by decide +kernel
theorem d_Md_trip_66 : decode c_Md_trip 66 = .ok (.iconst 5, 1) := by decide +kernel
theorem d_Md_trip_67 : decode c_Md_trip 67 = .ok (.aload_n 0, 1) := by decide +kernel
theorem d_Md_trip_68 : decode c_Md_trip 68 = .ok (.getfield 209, 3) := by decide +kernel
theorem d_Md_trip_71 : decode c_Md_trip 71 = .ok (.imul, 1) := by decide +kernel
theorem d_Md_trip_72 : decode c_Md_trip 72 = .ok (.iload_n 1, 1) := by decide +kernel
theorem d_Md_trip_73 : decode c_Md_trip 73 = .ok (.iastore, 1) := by decide +kernel
theorem d_Md_trip_74 : decode c_Md_trip 74 = .ok (.aload_n 0, 1) := by decide +kernel
theorem d_Md_trip_75 : decode c_Md_trip 75 = .ok (.getfield 37, 3) := by decide +kernel
theorem d_Md_trip_78 : decode c_Md_trip 78 = .ok (.iconst 5, 1) := by decide +kernel
theorem d_Md_trip_79 : decode c_Md_trip 79 = .ok (.aload_n 0, 1) := by decide +kernel
theorem d_Md_trip_80 : decode c_Md_trip 80 = .ok (.getfield 209, 3) := by decide +kernel
theorem d_Md_trip_83 : decode c_Md_trip 83 = .ok (.imul, 1) := by decide +kernel
theorem d_Md_trip_84 : decode c_Md_trip 84 = .ok (.iconst 1, 1) := by decide +kernel
theorem d_Md_trip_85 : decode c_Md_trip 85 = .ok (.iadd, 1) := by decide +kernel
theorem d_Md_trip_86 : decode c_Md_trip 86 = .ok (.iload_n 2, 1) := by decide +kernel
theorem d_Md_trip_87 : decode c_Md_trip 87 = .ok (.iastore, 1) := by decide +kernel
theorem d_Md_trip_88 : decode c_Md_trip 88 = .ok (.aload_n 0, 1) := by decide +kernel
theorem d_Md_trip_89 : decode c_Md_trip 89 = .ok (.getfield 37, 3) := by decide +kernel
theorem d_Md_trip_92 : decode c_Md_trip 92 = .ok (.iconst 5, 1) := by decide +kernel
theorem d_Md_trip_93 : decode c_Md_trip 93 = .ok (.aload_n 0, 1) := by decide +kernel
theorem d_Md_trip_94 : decode c_Md_trip 94 = .ok (.getfield 209, 3) := by decide +kernel
theorem d_Md_trip_97 : decode c_Md_trip 97 = .ok (.imul, 1) := by decide +kernel
theorem d_Md_trip_98 : decode c_Md_trip 98 = .ok (.iconst 2, 1) := by decide +kernel
theorem d_Md_trip_99 : decode c_Md_trip 99 = .ok (.iadd, 1) := by decide +kernel
theorem d_Md_trip_100 : decode c_Md_trip 100 = .ok (.iload_n 3, 1) := by decide +kernel
theorem d_Md_trip_101 : decode c_Md_trip 101 = .ok (.iastore, 1) := by decide +kernel
theorem d_Md_trip_102 : decode c_Md_trip 102 = .ok (.aload_n 0, 1) := by decide +kernel
theorem d_Md_trip_103 : decode c_Md_trip 103 = .ok (.getfield 37, 3) := by decide +kernel
theorem d_Md_trip_106 : decode c_Md_trip 106 = .ok (.iconst 5, 1) := by decide +kernel
theorem d_Md_trip_107 : decode c_Md_trip 107 = .ok (.aload_n 0, 1) := by decide +kernel
theorem d_Md_trip_108 : decode c_Md_trip 108 = .ok (.getfield 209, 3) := by decide +kernel
theorem d_Md_trip_111 : decode c_Md_trip 111 = .ok (.imul, 1) := by decide +kernel
theorem d_Md_trip_112 : decode c_Md_trip 112 = .ok (.iconst 3, 1) := by decide +kernel
theorem d_Md_trip_113 : decode c_Md_trip 113 = .ok (.iadd, 1) := by decide +kernel
theorem d_Md_trip_114 : decode c_Md_trip 114 = .ok (.iload 4, 2) := by decide +kernel
theorem d_Md_trip_116 : decode c_Md_trip 116 = .ok (.iastore, 1) := by decide +kernel
theorem d_Md_trip_117 : decode c_Md_trip 117 = .ok (.aload_n 0, 1) := by decide +kernel
theorem d_Md_trip_118 : decode c_Md_trip 118 = .ok (.getfield 37, 3) := by decide +kernel
theorem d_Md_trip_121 : decode c_Md_trip 121 = .ok (.iconst 5, 1) := by decide +kernel
theorem d_Md_trip_122 : decode c_Md_trip 122 = .ok (.aload_n 0, 1) := by decide +kernel
theorem d_Md_trip_123 : decode c_Md_trip 123 = .ok (.getfield 209, 3) := by decide +kernel
theorem d_Md_trip_126 : decode c_Md_trip 126 = .ok (.imul, 1) := by decide +kernel
theorem d_Md_trip_127 : decode c_Md_trip 127 = .ok (.iconst 4, 1) := by decide +kernel
theorem d_Md_trip_128 : decode c_Md_trip 128 = .ok (.iadd, 1) := by decide +kernel
theorem d_Md_trip_129 : decode c_Md_trip 129 = .ok (.iload 5, 2) := by decide +kernel
theorem d_Md_trip_131 : decode c_Md_trip 131 = .ok (.iastore, 1) := by decide +kernel
theorem d_Md_trip_132 : decode c_Md_trip 132 = .ok (.aload_n 0, 1) := by decide +kernel
theorem d_Md_trip_133 : decode c_Md_trip 133 = .ok (.dup, 1) := by decide +kernel
theorem d_Md_trip_134 : decode c_Md_trip 134 = .ok (.getfield 209, 3) := by decide +kernel
theorem d_Md_trip_137 : decode c_Md_trip 137 = .ok (.iconst 1, 1) := by decide +kernel
theorem d_Md_trip_138 : decode c_Md_trip 138 = .ok (.iadd, 1) := by decide +kernel
theorem d_Md_trip_139 : decode c_Md_trip 139 = .ok (.putfield 209, 3) := by decide +kernel
theorem d_Md_trip_142 : decode c_Md_trip 142 = .ok (.aload_n 0, 1) := by decide +kernel
theorem d_Md_trip_143 : decode c_Md_trip 143 = .ok (.getfield 209, 3) := by decide +kernel
theorem d_Md_trip_146 : decode c_Md_trip 146 = .ok (.iconst 1, 1) := by decide +kernel
theorem d_Md_trip_147 : decode c_Md_trip 147 = .ok (.isub, 1) := by decide +kernel
theorem d_Md_trip_148 : decode c_Md_trip 148 = .ok (.ireturn, 1) := by decide +kernel
theorem d_Md_read_0 : decode c_Md_read 0 = .ok (.iload_n 1, 1) := by decide +kernel
theorem d_Md_read_1 : decode c_Md_read 1 = .ok (.invokestatic 87, 3) := by decide +kernel
theorem d_Md_read_4 : decode c_Md_read 4 = .ok (.ifCond .eq 10, 3) := by decide +kernel
theorem d_Md_read_7 : decode c_Md_read 7 = .ok (.iload_n 2, 1) := by decide +kernel
theorem d_Md_read_8 : decode c_Md_read 8 = .ok (.invokestatic 206, 3) := by decide +kernel
theorem d_Md_read_11 : decode c_Md_read 11 = .ok (.ifCond .ne 6, 3) := by decide +kernel
theorem d_Md_read_14 : decode c_Md_read 14 = .ok (.bipush (-2), 2) := by decide +kernel
theorem d_Md_read_16 : decode c_Md_read 16 = .ok (.ireturn, 1) := by decide +kernel
theorem d_Md_read_17 : decode c_Md_read 17 = .ok (.aload_n 0, 1) := by decide +kernel
theorem d_Md_read_18 : decode c_Md_read 18 = .ok (.getfield 7, 3) := by decide +kernel
theorem d_Md_read_21 : decode c_Md_read 21 = .ok (.iload_n 1, 1) := by decide +kernel
theorem d_Md_read_22 : decode c_Md_read 22 = .ok (.iaload, 1) := by decide +kernel
theorem d_Md_read_23 : decode c_Md_read 23 = .ok (.ifCond .ge 9, 3) := by decide +kernel
theorem d_Md_read_26 : decode c_Md_read 26 = .ok (.aload_n 0, 1) := by decide +kernel
theorem d_Md_read_27 : decode c_Md_read 27 = .ok (.iconst 1, 1) := by decide +kernel
theorem d_Md_read_28 : decode c_Md_read 28 = .ok (.invokevirtual 93, 3) := by decide +kernel
theorem d_Md_read_31 : decode c_Md_read 31 = .ok (.ireturn, 1) := by decide +kernel
theorem d_Md_read_32 : decode c_Md_read 32 = .ok (.iconst 0, 1) := by decide +kernel
theorem d_Md_read_33 : decode c_Md_read 33 = .ok (.istore_n 3, 1) := by decide +kernel
theorem d_Md_read_34 : decode c_Md_read 34 = .ok (.iconst 1, 1) := by decide +kernel
theorem d_Md_read_35 : decode c_Md_read 35 = .ok (.istore 4, 2) := by decide +kernel
theorem d_Md_read_37 : decode c_Md_read 37 = .ok (.iload 4, 2) := by decide +kernel
theorem d_Md_read_39 : decode c_Md_read 39 = .ok (.ifCond .eq 92, 3) := by decide +kernel
theorem d_Md_read_42 : decode c_Md_read 42 = .ok (.iconst 4, 1) := by decide +kernel
theorem d_Md_read_43 : decode c_Md_read 43 = .ok (.iload_n 3, 1) := by decide +kernel
theorem d_Md_read_44 : decode c_Md_read 44 = .ok (.imul, 1) := by decide +kernel
theorem d_Md_read_45 : decode c_Md_read 45 = .ok (.iconst 4, 1) := by decide +kernel
theorem d_Md_read_46 : decode c_Md_read 46 = .ok (.iadd, 1) := by decide +kernel
theorem d_Md_read_47 : decode c_Md_read 47 = .ok (.aload_n 0, 1) := by decide +kernel
theorem d_Md_read_48 : decode c_Md_read 48 = .ok (.getfield 13, 3) := by decide +kernel
theorem d_Md_read_51 : decode c_Md_read 51 = .ok (.iload_n 1, 1) := by decide +kernel
theorem d_Md_read_52 : decode c_Md_read 52 = .ok (.iaload, 1) := by decide +kernel
theorem d_Md_read_53 : decode c_Md_read 53 = .ok (.if_icmp .gt 78, 3) := by decide +kernel
theorem d_Md_read_56 : decode c_Md_read 56 = .ok (.bipush 60, 2) := by decide +kernel
theorem d_Md_read_58 : decode c_Md_read 58 = .ok (.iload_n 1, 1) := by decide +kernel
theorem d_Md_read_59 : decode c_Md_read 59 = .ok (.imul, 1) := by decide +kernel
theorem d_Md_read_60 : decode c_Md_read 60 = .ok (.iconst 4, 1) := by decide +kernel
theorem d_Md_read_61 : decode c_Md_read 61 = .ok (.iload_n 3, 1) := by decide +kernel
theorem d_Md_read_62 : decode c_Md_read 62 = .ok (.imul, 1) := by decide +kernel
theorem d_Md_read_63 : decode c_Md_read 63 = .ok (.iadd, 1) := by decide +kernel
theorem d_Md_read_64 : decode c_Md_read 64 = .ok (.istore 5, 2) := by decide +kernel
theorem d_Md_read_66 : decode c_Md_read 66 = .ok (.aload_n 0, 1) := by decide +kernel
theorem d_Md_read_67 : decode c_Md_read 67 = .ok (.aload_n 0, 1) := by decide +kernel
theorem d_Md_read_68 : decode c_Md_read 68 = .ok (.getfield 16, 3) := by decide +kernel
theorem d_Md_read_71 : decode c_Md_read 71 = .ok (.iload 5, 2) := by decide +kernel
theorem d_Md_read_73 : decode c_Md_read 73 = .ok (.iaload, 1) := by decide +kernel
theorem d_Md_read_74 : decode c_Md_read 74 = .ok (.aload_n 0, 1) := by decide +kernel
theorem d_Md_read_75 : decode c_Md_read 75 = .ok (.getfield 16, 3) := by decide +kernel
theorem d_Md_read_78 : decode c_Md_read 78 = .ok (.iload 5, 2) := by decide +kernel
theorem d_Md_read_80 : decode c_Md_read 80 = .ok (.iconst 1, 1) := by decide +kernel
theorem d_Md_read_81 : decode c_Md_read 81 = .ok (.iadd, 1) := by decide +kernel
theorem d_Md_read_82 : decode c_Md_read 82 = .ok (.iaload, 1) := by decide +kernel
theorem d_Md_read_83 : decode c_Md_read 83 = .ok (.aload_n 0, 1) := by decide +kernel
theorem d_Md_read_84 : decode c_Md_read 84 = .ok (.getfield 16, 3) := by decide +kernel
theorem d_Md_read_87 : decode c_Md_read 87 = .ok (.iload 5, 2) := by decide +kernel
theorem d_Md_read_89 : decode c_Md_read 89 = .ok (.iconst 2, 1) := by decide +kernel
theorem d_Md_read_90 : decode c_Md_read 90 = .ok (.iadd, 1) := by decide +kernel
theorem d_Md_read_91 : decode c_Md_read 91 = .ok (.iaload, 1) := by decide +kernel
theorem d_Md_read_92 : decode c_Md_read 92 = .ok (.aload_n 0, 1) := by decide +kernel
theorem d_Md_read_93 : decode c_Md_read 93 = .ok (.getfield 16, 3) := by decide +kernel
theorem d_Md_read_96 : decode c_Md_read 96 = .ok (.iload 5, 2) := by decide +kernel
theorem d_Md_read_98 : decode c_Md_read 98 = .ok (.iconst 3, 1) := by decide +kernel
theorem d_Md_read_99 : decode c_Md_read 99 = .ok (.iadd, 1) := by decide +kernel
theorem d_Md_read_100 : decode c_Md_read 100 = .ok (.iaload, 1) := by decide +kernel
theorem d_Md_read_101 : decode c_Md_read 101 = .ok (.iload_n 2, 1) := by decide +kernel
theorem d_Md_read_102 : decode c_Md_read 102 = .ok (.invokevirtual 212, 3) := by decide +kernel
theorem d_Md_read_105 : decode c_Md_read 105 = .ok (.ifCond .lt 7, 3) := by decide +kernel
theorem d_Md_read_108 : decode c_Md_read 108 = .ok (.iconst 1, 1) := by decide +kernel
theorem d_Md_read_109 : decode c_Md_read 109 = .ok (.goto 4, 3) := by decide +kernel
theorem d_Md_read_112 : decode c_Md_read 112 = .ok (.iconst 0, 1) := by decide +kernel
theorem d_Md_read_113 : decode c_Md_read 113 = .ok (.istore 4, 2) := by decide +kernel
theorem d_Md_read_115 : decode c_Md_read 115 = .ok (.iload_n 3, 1) := by decide +kernel
theorem d_Md_read_116 : decode c_Md_read 116 = .ok (.iload 4, 2) := by decide +kernel
theorem d_Md_read_118 : decode c_Md_read 118 = .ok (.ifCond .eq 7, 3) := by decide +kernel
theorem d_Md_read_121 : decode c_Md_read 121 = .ok (.iconst 1, 1) := by decide +kernel
theorem d_Md_read_122 : decode c_Md_read 122 = .ok (.goto 4, 3) := by decide +kernel
theorem d_Md_read_125 : decode c_Md_read 125 = .ok (.iconst 0, 1) := by decide +kernel
theorem d_Md_read_126 : decode c_Md_read 126 = .ok (.iadd, 1) := by decide +kernel
theorem d_Md_read_127 : decode c_Md_read 127 = .ok (.istore_n 3, 1) := by decide +kernel
theorem d_Md_read_128 : decode c_Md_read 128 = .ok (.goto (-91), 3) := by decide +kernel
theorem d_Md_read_131 : decode c_Md_read 131 = .ok (.iload_n 3, 1) := by decide +kernel
theorem d_Md_read_132 : decode c_Md_read 132 = .ok (.ireturn, 1) := by decide +kernel
theorem d_Md_undo_0 : decode c_Md_undo 0 = .ok (.aload_n 0, 1) := by decide +kernel
theorem d_Md_undo_1 : decode c_Md_undo 1 = .ok (.getfield 209, 3) := by decide +kernel
theorem d_Md_undo_4 : decode c_Md_undo 4 = .ok (.ifCond .ne 6, 3) := by decide +kernel
theorem d_Md_undo_7 : decode c_Md_undo 7 = .ok (.bipush (-3), 2) := by decide +kernel
theorem d_Md_undo_9 : decode c_Md_undo 9 = .ok (.ireturn, 1) := by decide +kernel
theorem d_Md_undo_10 : decode c_Md_undo 10 = .ok (.aload_n 0, 1) := by decide +kernel
theorem d_Md_undo_11 : decode c_Md_undo 11 = .ok (.dup, 1) := by decide +kernel
theorem d_Md_undo_12 : decode c_Md_undo 12 = .ok (.getfield 209, 3) := by decide +kernel
theorem d_Md_undo_15 : decode c_Md_undo 15 = .ok (.iconst 1, 1) := by decide +kernel
theorem d_Md_undo_16 : decode c_Md_undo 16 = .ok (.isub, 1) := by decide +kernel
theorem d_Md_undo_17 : decode c_Md_undo 17 = .ok (.putfield 209, 3) := by decide +kernel
theorem d_Md_undo_20 : decode c_Md_undo 20 = .ok (.aload_n 0, 1) := by decide +kernel
theorem d_Md_undo_21 : decode c_Md_undo 21 = .ok (.getfield 209, 3) := by decide +kernel
theorem d_Md_undo_24 : decode c_Md_undo 24 = .ok (.ireturn, 1) := by decide +kernel
theorem d_Md_isTrip_0 : decode c_Md_isTrip 0 = .ok (.iload_n 1, 1) := by decide +kernel
theorem d_Md_isTrip_1 : decode c_Md_isTrip 1 = .ok (.i2l, 1) := by decide +kernel
theorem d_Md_isTrip_2 : decode c_Md_isTrip 2 = .ok (.lconst 0, 1) := by decide +kernel
theorem d_Md_isTrip_3 : decode c_Md_isTrip 3 = .ok (.aload_n 0, 1) := by decide +kernel
theorem d_Md_isTrip_4 : decode c_Md_isTrip 4 = .ok (.getfield 209, 3) := by decide +kernel
theorem d_Md_isTrip_7 : decode c_Md_isTrip 7 = .ok (.iconst 1, 1) := by decide +kernel
theorem d_Md_isTrip_8 : decode c_Md_isTrip 8 = .ok (.isub, 1) := by decide +kernel
theorem d_Md_isTrip_9 : decode c_Md_isTrip 9 = .ok (.i2l, 1) := by decide +kernel
theorem d_Md_isTrip_10 : decode c_Md_isTrip 10 = .ok (.invokestatic 73, 3) := by decide +kernel
theorem d_Md_isTrip_13 : decode c_Md_isTrip 13 = .ok (.ireturn, 1) := by decide +kernel
theorem d_Md_asTold_0 : decode c_Md_asTold 0 = .ok (.aload_n 0, 1) := by decide +kernel
theorem d_Md_asTold_1 : decode c_Md_asTold 1 = .ok (.invokevirtual 137, 3) := by decide +kernel
theorem d_Md_asTold_4 : decode c_Md_asTold 4 = .ok (.pop, 1) := by decide +kernel
theorem d_Md_asTold_5 : decode c_Md_asTold 5 = .ok (.iconst 0, 1) := by decide +kernel
theorem d_Md_asTold_6 : decode c_Md_asTold 6 = .ok (.istore_n 1, 1) := by decide +kernel
theorem d_Md_asTold_7 : decode c_Md_asTold 7 = .ok (.iload_n 1, 1) := by decide +kernel
theorem d_Md_asTold_8 : decode c_Md_asTold 8 = .ok (.aload_n 0, 1) := by decide +kernel
theorem d_Md_asTold_9 : decode c_Md_asTold 9 = .ok (.getfield 209, 3) := by decide +kernel
theorem d_Md_asTold_12 : decode c_Md_asTold 12 = .ok (.if_icmp .ge 25, 3) := by decide +kernel
theorem d_Md_asTold_15 : decode c_Md_asTold 15 = .ok (.aload_n 0, 1) := by decide +kernel
theorem d_Md_asTold_16 : decode c_Md_asTold 16 = .ok (.getfield 40, 3) := by decide +kernel
theorem d_Md_asTold_19 : decode c_Md_asTold 19 = .ok (.iload_n 1, 1) := by decide +kernel
theorem d_Md_asTold_20 : decode c_Md_asTold 20 = .ok (.aload_n 0, 1) := by decide +kernel
theorem d_Md_asTold_21 : decode c_Md_asTold 21 = .ok (.getfield 37, 3) := by decide +kernel
theorem d_Md_asTold_24 : decode c_Md_asTold 24 = .ok (.iconst 5, 1) := by decide +kernel
theorem d_Md_asTold_25 : decode c_Md_asTold 25 = .ok (.iload_n 1, 1) := by decide +kernel
theorem d_Md_asTold_26 : decode c_Md_asTold 26 = .ok (.imul, 1) := by decide +kernel
theorem d_Md_asTold_27 : decode c_Md_asTold 27 = .ok (.iconst 2, 1) := by decide +kernel
theorem d_Md_asTold_28 : decode c_Md_asTold 28 = .ok (.iadd, 1) := by decide +kernel
theorem d_Md_asTold_29 : decode c_Md_asTold 29 = .ok (.iaload, 1) := by decide +kernel
theorem d_Md_asTold_30 : decode c_Md_asTold 30 = .ok (.iastore, 1) := by decide +kernel
theorem d_Md_asTold_31 : decode c_Md_asTold 31 = .ok (.iinc 1 1, 3) := by decide +kernel
theorem d_Md_asTold_34 : decode c_Md_asTold 34 = .ok (.goto (-27), 3) := by decide +kernel
theorem d_Md_asTold_37 : decode c_Md_asTold 37 = .ok (.return_, 1) := by decide +kernel
theorem d_Md_counts_0 : decode c_Md_counts 0 = .ok (.aload_n 0, 1) := by decide +kernel
theorem d_Md_counts_1 : decode c_Md_counts 1 = .ok (.aload_n 0, 1) := by decide +kernel
theorem d_Md_counts_2 : decode c_Md_counts 2 = .ok (.getfield 37, 3) := by decide +kernel
theorem d_Md_counts_5 : decode c_Md_counts 5 = .ok (.iconst 5, 1) := by decide +kernel
theorem d_Md_counts_6 : decode c_Md_counts 6 = .ok (.iload_n 1, 1) := by decide +kernel
theorem d_Md_counts_7 : decode c_Md_counts 7 = .ok (.imul, 1) := by decide +kernel
theorem d_Md_counts_8 : decode c_Md_counts 8 = .ok (.iaload, 1) := by decide +kernel
theorem d_Md_counts_9 : decode c_Md_counts 9 = .ok (.invokevirtual 128, 3) := by decide +kernel
theorem d_Md_counts_12 : decode c_Md_counts 12 = .ok (.ireturn, 1) := by decide +kernel
theorem d_Md_lasts_0 : decode c_Md_lasts 0 = .ok (.aload_n 0, 1) := by decide +kernel
theorem d_Md_lasts_1 : decode c_Md_lasts 1 = .ok (.aload_n 0, 1) := by decide +kernel
theorem d_Md_lasts_2 : decode c_Md_lasts 2 = .ok (.getfield 37, 3) := by decide +kernel
theorem d_Md_lasts_5 : decode c_Md_lasts 5 = .ok (.iconst 5, 1) := by decide +kernel
theorem d_Md_lasts_6 : decode c_Md_lasts 6 = .ok (.iload_n 1, 1) := by decide +kernel
theorem d_Md_lasts_7 : decode c_Md_lasts 7 = .ok (.imul, 1) := by decide +kernel
theorem d_Md_lasts_8 : decode c_Md_lasts 8 = .ok (.iaload, 1) := by decide +kernel
theorem d_Md_lasts_9 : decode c_Md_lasts 9 = .ok (.aload_n 0, 1) := by decide +kernel
theorem d_Md_lasts_10 : decode c_Md_lasts 10 = .ok (.getfield 37, 3) := by decide +kernel
theorem d_Md_lasts_13 : decode c_Md_lasts 13 = .ok (.iconst 5, 1) := by decide +kernel
theorem d_Md_lasts_14 : decode c_Md_lasts 14 = .ok (.iload_n 1, 1) := by decide +kernel
theorem d_Md_lasts_15 : decode c_Md_lasts 15 = .ok (.imul, 1) := by decide +kernel
theorem d_Md_lasts_16 : decode c_Md_lasts 16 = .ok (.iconst 1, 1) := by decide +kernel
theorem d_Md_lasts_17 : decode c_Md_lasts 17 = .ok (.iadd, 1) := by decide +kernel
theorem d_Md_lasts_18 : decode c_Md_lasts 18 = .ok (.iaload, 1) := by decide +kernel
theorem d_Md_lasts_19 : decode c_Md_lasts 19 = .ok (.invokevirtual 192, 3) := by decide +kernel
theorem d_Md_lasts_22 : decode c_Md_lasts 22 = .ok (.ireturn, 1) := by decide +kernel
theorem d_Md_moment_0 : decode c_Md_moment 0 = .ok (.aload_n 0, 1) := by decide +kernel
theorem d_Md_moment_1 : decode c_Md_moment 1 = .ok (.getfield 37, 3) := by decide +kernel
theorem d_Md_moment_4 : decode c_Md_moment 4 = .ok (.iconst 5, 1) := by decide +kernel
theorem d_Md_moment_5 : decode c_Md_moment 5 = .ok (.iload_n 1, 1) := by decide +kernel
theorem d_Md_moment_6 : decode c_Md_moment 6 = .ok (.imul, 1) := by decide +kernel
theorem d_Md_moment_7 : decode c_Md_moment 7 = .ok (.iconst 1, 1) := by decide +kernel
theorem d_Md_moment_8 : decode c_Md_moment 8 = .ok (.iadd, 1) := by decide +kernel
theorem d_Md_moment_9 : decode c_Md_moment 9 = .ok (.iaload, 1) := by decide +kernel
theorem d_Md_moment_10 : decode c_Md_moment 10 = .ok (.ifCond .ne 10, 3) := by decide +kernel
theorem d_Md_moment_13 : decode c_Md_moment 13 = .ok (.aload_n 0, 1) := by decide +kernel
theorem d_Md_moment_14 : decode c_Md_moment 14 = .ok (.getfield 164, 3) := by decide +kernel
theorem d_Md_moment_17 : decode c_Md_moment 17 = .ok (.goto 12, 3) := by decide +kernel
theorem d_Md_moment_20 : decode c_Md_moment 20 = .ok (.aload_n 0, 1) := by decide +kernel
theorem d_Md_moment_21 : decode c_Md_moment 21 = .ok (.getfield 167, 3) := by decide +kernel
theorem d_Md_moment_24 : decode c_Md_moment 24 = .ok (.aload_n 0, 1) := by decide +kernel
theorem d_Md_moment_25 : decode c_Md_moment 25 = .ok (.getfield 164, 3) := by decide +kernel
theorem d_Md_moment_28 : decode c_Md_moment 28 = .ok (.isub, 1) := by decide +kernel
theorem d_Md_moment_29 : decode c_Md_moment 29 = .ok (.istore_n 2, 1) := by decide +kernel
theorem d_Md_moment_30 : decode c_Md_moment 30 = .ok (.aload_n 0, 1) := by decide +kernel
theorem d_Md_moment_31 : decode c_Md_moment 31 = .ok (.getfield 40, 3) := by decide +kernel
theorem d_Md_moment_34 : decode c_Md_moment 34 = .ok (.iload_n 1, 1) := by decide +kernel
theorem d_Md_moment_35 : decode c_Md_moment 35 = .ok (.iaload, 1) := by decide +kernel
theorem d_Md_moment_36 : decode c_Md_moment 36 = .ok (.aload_n 0, 1) := by decide +kernel
theorem d_Md_moment_37 : decode c_Md_moment 37 = .ok (.getfield 167, 3) := by decide +kernel
theorem d_Md_moment_40 : decode c_Md_moment 40 = .ok (.imul, 1) := by decide +kernel
theorem d_Md_moment_41 : decode c_Md_moment 41 = .ok (.aload_n 0, 1) := by decide +kernel
theorem d_Md_moment_42 : decode c_Md_moment 42 = .ok (.iload_n 1, 1) := by decide +kernel
theorem d_Md_moment_43 : decode c_Md_moment 43 = .ok (.invokevirtual 216, 3) := by decide +kernel
theorem d_Md_moment_46 : decode c_Md_moment 46 = .ok (.iload_n 2, 1) := by decide +kernel
theorem d_Md_moment_47 : decode c_Md_moment 47 = .ok (.imul, 1) := by decide +kernel
theorem d_Md_moment_48 : decode c_Md_moment 48 = .ok (.iadd, 1) := by decide +kernel
theorem d_Md_moment_49 : decode c_Md_moment 49 = .ok (.ireturn, 1) := by decide +kernel
def f_Md_trip (σ : Sg) (v1 : Int32) (v2 : Int32) (v3 : Int32) (v4 : Int32) (v5 : Int32) : Option (Int32 × Sg) :=
  if (f_Md_in v1.toInt64 0 7) = 0 then
    some ((-2), σ)
  else
    if (f_Md_isTwo v2) = 0 then
      some ((-2), σ)
    else
      if (f_Md_in v3.toInt64 0 199) = 0 then
        some ((-2), σ)
      else
        if (f_Md_isFigure v4) = 0 then
          some ((-2), σ)
        else
          if (f_Md_isOwner v5) = 0 then
            some ((-2), σ)
          else
            if (σ.1 66 14) = 20 then
              some ((-4), σ)
            else
              gd (vin (5 * (σ.1 66 14)) 100) (
                gd (vin ((5 * ((pI σ 76 (5 * (σ.1 66 14)).toNatClampNeg v1).1 66 14)) + 1) 100) (
                  gd (vin ((5 * ((pI (pI σ 76 (5 * (σ.1 66 14)).toNatClampNeg v1) 76 ((5 * ((pI σ 76 (5 * (σ.1 66 14)).toNatClampNeg v1).1 66 14)) + 1).toNatClampNeg v2).1 66 14)) + 2) 100) (
                    gd (vin ((5 * ((pI (pI (pI σ 76 (5 * (σ.1 66 14)).toNatClampNeg v1) 76 ((5 * ((pI σ 76 (5 * (σ.1 66 14)).toNatClampNeg v1).1 66 14)) + 1).toNatClampNeg v2) 76 ((5 * ((pI (pI σ 76 (5 * (σ.1 66 14)).toNatClampNeg v1) 76 ((5 * ((pI σ 76 (5 * (σ.1 66 14)).toNatClampNeg v1).1 66 14)) + 1).toNatClampNeg v2).1 66 14)) + 2).toNatClampNeg v3).1 66 14)) + 3) 100) (
                      gd (vin ((5 * ((pI (pI (pI (pI σ 76 (5 * (σ.1 66 14)).toNatClampNeg v1) 76 ((5 * ((pI σ 76 (5 * (σ.1 66 14)).toNatClampNeg v1).1 66 14)) + 1).toNatClampNeg v2) 76 ((5 * ((pI (pI σ 76 (5 * (σ.1 66 14)).toNatClampNeg v1) 76 ((5 * ((pI σ 76 (5 * (σ.1 66 14)).toNatClampNeg v1).1 66 14)) + 1).toNatClampNeg v2).1 66 14)) + 2).toNatClampNeg v3) 76 ((5 * ((pI (pI (pI σ 76 (5 * (σ.1 66 14)).toNatClampNeg v1) 76 ((5 * ((pI σ 76 (5 * (σ.1 66 14)).toNatClampNeg v1).1 66 14)) + 1).toNatClampNeg v2) 76 ((5 * ((pI (pI σ 76 (5 * (σ.1 66 14)).toNatClampNeg v1) 76 ((5 * ((pI σ 76 (5 * (σ.1 66 14)).toNatClampNeg v1).1 66 14)) + 1).toNatClampNeg v2).1 66 14)) + 2).toNatClampNeg v3).1 66 14)) + 3).toNatClampNeg v4).1 66 14)) + 4) 100) (
                        some (((pI (pI (pI (pI (pI (pI σ 76 (5 * (σ.1 66 14)).toNatClampNeg v1) 76 ((5 * ((pI σ 76 (5 * (σ.1 66 14)).toNatClampNeg v1).1 66 14)) + 1).toNatClampNeg v2) 76 ((5 * ((pI (pI σ 76 (5 * (σ.1 66 14)).toNatClampNeg v1) 76 ((5 * ((pI σ 76 (5 * (σ.1 66 14)).toNatClampNeg v1).1 66 14)) + 1).toNatClampNeg v2).1 66 14)) + 2).toNatClampNeg v3) 76 ((5 * ((pI (pI (pI σ 76 (5 * (σ.1 66 14)).toNatClampNeg v1) 76 ((5 * ((pI σ 76 (5 * (σ.1 66 14)).toNatClampNeg v1).1 66 14)) + 1).toNatClampNeg v2) 76 ((5 * ((pI (pI σ 76 (5 * (σ.1 66 14)).toNatClampNeg v1) 76 ((5 * ((pI σ 76 (5 * (σ.1 66 14)).toNatClampNeg v1).1 66 14)) + 1).toNatClampNeg v2).1 66 14)) + 2).toNatClampNeg v3).1 66 14)) + 3).toNatClampNeg v4) 76 ((5 * ((pI (pI (pI (pI σ 76 (5 * (σ.1 66 14)).toNatClampNeg v1) 76 ((5 * ((pI σ 76 (5 * (σ.1 66 14)).toNatClampNeg v1).1 66 14)) + 1).toNatClampNeg v2) 76 ((5 * ((pI (pI σ 76 (5 * (σ.1 66 14)).toNatClampNeg v1) 76 ((5 * ((pI σ 76 (5 * (σ.1 66 14)).toNatClampNeg v1).1 66 14)) + 1).toNatClampNeg v2).1 66 14)) + 2).toNatClampNeg v3) 76 ((5 * ((pI (pI (pI σ 76 (5 * (σ.1 66 14)).toNatClampNeg v1) 76 ((5 * ((pI σ 76 (5 * (σ.1 66 14)).toNatClampNeg v1).1 66 14)) + 1).toNatClampNeg v2) 76 ((5 * ((pI (pI σ 76 (5 * (σ.1 66 14)).toNatClampNeg v1) 76 ((5 * ((pI σ 76 (5 * (σ.1 66 14)).toNatClampNeg v1).1 66 14)) + 1).toNatClampNeg v2).1 66 14)) + 2).toNatClampNeg v3).1 66 14)) + 3).toNatClampNeg v4).1 66 14)) + 4).toNatClampNeg v5) 66 14 (((pI (pI (pI (pI (pI σ 76 (5 * (σ.1 66 14)).toNatClampNeg v1) 76 ((5 * ((pI σ 76 (5 * (σ.1 66 14)).toNatClampNeg v1).1 66 14)) + 1).toNatClampNeg v2) 76 ((5 * ((pI (pI σ 76 (5 * (σ.1 66 14)).toNatClampNeg v1) 76 ((5 * ((pI σ 76 (5 * (σ.1 66 14)).toNatClampNeg v1).1 66 14)) + 1).toNatClampNeg v2).1 66 14)) + 2).toNatClampNeg v3) 76 ((5 * ((pI (pI (pI σ 76 (5 * (σ.1 66 14)).toNatClampNeg v1) 76 ((5 * ((pI σ 76 (5 * (σ.1 66 14)).toNatClampNeg v1).1 66 14)) + 1).toNatClampNeg v2) 76 ((5 * ((pI (pI σ 76 (5 * (σ.1 66 14)).toNatClampNeg v1) 76 ((5 * ((pI σ 76 (5 * (σ.1 66 14)).toNatClampNeg v1).1 66 14)) + 1).toNatClampNeg v2).1 66 14)) + 2).toNatClampNeg v3).1 66 14)) + 3).toNatClampNeg v4) 76 ((5 * ((pI (pI (pI (pI σ 76 (5 * (σ.1 66 14)).toNatClampNeg v1) 76 ((5 * ((pI σ 76 (5 * (σ.1 66 14)).toNatClampNeg v1).1 66 14)) + 1).toNatClampNeg v2) 76 ((5 * ((pI (pI σ 76 (5 * (σ.1 66 14)).toNatClampNeg v1) 76 ((5 * ((pI σ 76 (5 * (σ.1 66 14)).toNatClampNeg v1).1 66 14)) + 1).toNatClampNeg v2).1 66 14)) + 2).toNatClampNeg v3) 76 ((5 * ((pI (pI (pI σ 76 (5 * (σ.1 66 14)).toNatClampNeg v1) 76 ((5 * ((pI σ 76 (5 * (σ.1 66 14)).toNatClampNeg v1).1 66 14)) + 1).toNatClampNeg v2) 76 ((5 * ((pI (pI σ 76 (5 * (σ.1 66 14)).toNatClampNeg v1) 76 ((5 * ((pI σ 76 (5 * (σ.1 66 14)).toNatClampNeg v1).1 66 14)) + 1).toNatClampNeg v2).1 66 14)) + 2).toNatClampNeg v3).1 66 14)) + 3).toNatClampNeg v4).1 66 14)) + 4).toNatClampNeg v5).1 66 14) + 1)).1 66 14) - 1, (pI (pI (pI (pI (pI (pI σ 76 (5 * (σ.1 66 14)).toNatClampNeg v1) 76 ((5 * ((pI σ 76 (5 * (σ.1 66 14)).toNatClampNeg v1).1 66 14)) + 1).toNatClampNeg v2) 76 ((5 * ((pI (pI σ 76 (5 * (σ.1 66 14)).toNatClampNeg v1) 76 ((5 * ((pI σ 76 (5 * (σ.1 66 14)).toNatClampNeg v1).1 66 14)) + 1).toNatClampNeg v2).1 66 14)) + 2).toNatClampNeg v3) 76 ((5 * ((pI (pI (pI σ 76 (5 * (σ.1 66 14)).toNatClampNeg v1) 76 ((5 * ((pI σ 76 (5 * (σ.1 66 14)).toNatClampNeg v1).1 66 14)) + 1).toNatClampNeg v2) 76 ((5 * ((pI (pI σ 76 (5 * (σ.1 66 14)).toNatClampNeg v1) 76 ((5 * ((pI σ 76 (5 * (σ.1 66 14)).toNatClampNeg v1).1 66 14)) + 1).toNatClampNeg v2).1 66 14)) + 2).toNatClampNeg v3).1 66 14)) + 3).toNatClampNeg v4) 76 ((5 * ((pI (pI (pI (pI σ 76 (5 * (σ.1 66 14)).toNatClampNeg v1) 76 ((5 * ((pI σ 76 (5 * (σ.1 66 14)).toNatClampNeg v1).1 66 14)) + 1).toNatClampNeg v2) 76 ((5 * ((pI (pI σ 76 (5 * (σ.1 66 14)).toNatClampNeg v1) 76 ((5 * ((pI σ 76 (5 * (σ.1 66 14)).toNatClampNeg v1).1 66 14)) + 1).toNatClampNeg v2).1 66 14)) + 2).toNatClampNeg v3) 76 ((5 * ((pI (pI (pI σ 76 (5 * (σ.1 66 14)).toNatClampNeg v1) 76 ((5 * ((pI σ 76 (5 * (σ.1 66 14)).toNatClampNeg v1).1 66 14)) + 1).toNatClampNeg v2) 76 ((5 * ((pI (pI σ 76 (5 * (σ.1 66 14)).toNatClampNeg v1) 76 ((5 * ((pI σ 76 (5 * (σ.1 66 14)).toNatClampNeg v1).1 66 14)) + 1).toNatClampNeg v2).1 66 14)) + 2).toNatClampNeg v3).1 66 14)) + 3).toNatClampNeg v4).1 66 14)) + 4).toNatClampNeg v5) 66 14 (((pI (pI (pI (pI (pI σ 76 (5 * (σ.1 66 14)).toNatClampNeg v1) 76 ((5 * ((pI σ 76 (5 * (σ.1 66 14)).toNatClampNeg v1).1 66 14)) + 1).toNatClampNeg v2) 76 ((5 * ((pI (pI σ 76 (5 * (σ.1 66 14)).toNatClampNeg v1) 76 ((5 * ((pI σ 76 (5 * (σ.1 66 14)).toNatClampNeg v1).1 66 14)) + 1).toNatClampNeg v2).1 66 14)) + 2).toNatClampNeg v3) 76 ((5 * ((pI (pI (pI σ 76 (5 * (σ.1 66 14)).toNatClampNeg v1) 76 ((5 * ((pI σ 76 (5 * (σ.1 66 14)).toNatClampNeg v1).1 66 14)) + 1).toNatClampNeg v2) 76 ((5 * ((pI (pI σ 76 (5 * (σ.1 66 14)).toNatClampNeg v1) 76 ((5 * ((pI σ 76 (5 * (σ.1 66 14)).toNatClampNeg v1).1 66 14)) + 1).toNatClampNeg v2).1 66 14)) + 2).toNatClampNeg v3).1 66 14)) + 3).toNatClampNeg v4) 76 ((5 * ((pI (pI (pI (pI σ 76 (5 * (σ.1 66 14)).toNatClampNeg v1) 76 ((5 * ((pI σ 76 (5 * (σ.1 66 14)).toNatClampNeg v1).1 66 14)) + 1).toNatClampNeg v2) 76 ((5 * ((pI (pI σ 76 (5 * (σ.1 66 14)).toNatClampNeg v1) 76 ((5 * ((pI σ 76 (5 * (σ.1 66 14)).toNatClampNeg v1).1 66 14)) + 1).toNatClampNeg v2).1 66 14)) + 2).toNatClampNeg v3) 76 ((5 * ((pI (pI (pI σ 76 (5 * (σ.1 66 14)).toNatClampNeg v1) 76 ((5 * ((pI σ 76 (5 * (σ.1 66 14)).toNatClampNeg v1).1 66 14)) + 1).toNatClampNeg v2) 76 ((5 * ((pI (pI σ 76 (5 * (σ.1 66 14)).toNatClampNeg v1) 76 ((5 * ((pI σ 76 (5 * (σ.1 66 14)).toNatClampNeg v1).1 66 14)) + 1).toNatClampNeg v2).1 66 14)) + 2).toNatClampNeg v3).1 66 14)) + 3).toNatClampNeg v4).1 66 14)) + 4).toNatClampNeg v5).1 66 14) + 1))))))))
set_option maxHeartbeats 4000000 in
theorem j_Md_trip {V : Vx} {X : Xx} {r : Int32} {σ' : Sg} (σ : Sg) (v1 : Int32) (v2 : Int32) (v3 : Int32) (v4 : Int32) (v5 : Int32) (hf : f_Md_trip σ v1 v2 v3 v4 v5 = some (r, σ')) : J V X (k2_rm 2 45) c_Md_trip R_Md 6 (some .int) (Qr V X (some (.int r)) σ') σ 0 [(0, rf V 66), (1, .int v1), (2, .int v2), (3, .int v3), (4, .int v4), (5, .int v5)] [] := by
  unfold f_Md_trip at hf
  refine J_iload_n (pc' := 1) d_Md_trip_0 rfl 1 rfl ?_
  refine J_i2l (pc' := 2) d_Md_trip_1 rfl ?_
  refine J_lconst (pc' := 3) (v := 0) d_Md_trip_2 rfl lc_0 ?_
  refine J_ldc2 (pc' := 6) (v := 7) d_Md_trip_3 rfl cw_Md_202 ?_
  refine J_S (pc' := 9) (as := [.long v1.toInt64, .long 0, .long 7]) (rest := []) (st' := [.int (f_Md_in v1.toInt64 0 7)]) d_Md_trip_6 rfl ms_Md_73 (ct_Md_in V _ σ v1.toInt64 0 7) rfl rfl ⟨Nat.le_of_ble_eq_true rfl, Nat.le_of_ble_eq_true rfl⟩ ⟨rfl, rfl⟩ (Nat.le_of_ble_eq_true rfl) rfl ?_
  refine J_if_eq (pc' := 12) (tgt := 47) d_Md_trip_9 rfl (by decide) (fun hc1 => ?_) (fun hc1 => ?_)
  · have hf := brT hc1 hf
    refine J_bipush (pc' := 49) (v := (-2)) d_Md_trip_47 rfl bc_m2 ?_
    obtain ⟨rfl, rfl⟩ := resE hf
    exact J_iret d_Md_trip_49
  · have hf := brF hc1 hf
    refine J_iload_n (pc' := 13) d_Md_trip_12 rfl 2 rfl ?_
    refine J_S (pc' := 16) (as := [.int v2]) (rest := []) (st' := [.int (f_Md_isTwo v2)]) d_Md_trip_13 rfl ms_Md_106 (ct_Md_isTwo V _ σ v2) rfl rfl ⟨Nat.le_of_ble_eq_true rfl, Nat.le_of_ble_eq_true rfl⟩ ⟨rfl, rfl⟩ (Nat.le_of_ble_eq_true rfl) rfl ?_
    refine J_if_eq (pc' := 19) (tgt := 47) d_Md_trip_16 rfl (by decide) (fun hc2 => ?_) (fun hc2 => ?_)
    · have hf := brT hc2 hf
      refine J_bipush (pc' := 49) (v := (-2)) d_Md_trip_47 rfl bc_m2 ?_
      obtain ⟨rfl, rfl⟩ := resE hf
      exact J_iret d_Md_trip_49
    · have hf := brF hc2 hf
      refine J_iload_n (pc' := 20) d_Md_trip_19 rfl 3 rfl ?_
      refine J_i2l (pc' := 21) d_Md_trip_20 rfl ?_
      refine J_lconst (pc' := 22) (v := 0) d_Md_trip_21 rfl lc_0 ?_
      refine J_ldc2 (pc' := 25) (v := 199) d_Md_trip_22 rfl cw_Md_204 ?_
      refine J_S (pc' := 28) (as := [.long v3.toInt64, .long 0, .long 199]) (rest := []) (st' := [.int (f_Md_in v3.toInt64 0 199)]) d_Md_trip_25 rfl ms_Md_73 (ct_Md_in V _ σ v3.toInt64 0 199) rfl rfl ⟨Nat.le_of_ble_eq_true rfl, Nat.le_of_ble_eq_true rfl⟩ ⟨rfl, rfl⟩ (Nat.le_of_ble_eq_true rfl) rfl ?_
      refine J_if_eq (pc' := 31) (tgt := 47) d_Md_trip_28 rfl (by decide) (fun hc3 => ?_) (fun hc3 => ?_)
      · have hf := brT hc3 hf
        refine J_bipush (pc' := 49) (v := (-2)) d_Md_trip_47 rfl bc_m2 ?_
        obtain ⟨rfl, rfl⟩ := resE hf
        exact J_iret d_Md_trip_49
      · have hf := brF hc3 hf
        refine J_iload (pc' := 33) d_Md_trip_31 rfl 4 rfl ?_
        refine J_S (pc' := 36) (as := [.int v4]) (rest := []) (st' := [.int (f_Md_isFigure v4)]) d_Md_trip_33 rfl ms_Md_189 (ct_Md_isFigure V _ σ v4) rfl rfl ⟨Nat.le_of_ble_eq_true rfl, Nat.le_of_ble_eq_true rfl⟩ ⟨rfl, rfl⟩ (Nat.le_of_ble_eq_true rfl) rfl ?_
        refine J_if_eq (pc' := 39) (tgt := 47) d_Md_trip_36 rfl (by decide) (fun hc4 => ?_) (fun hc4 => ?_)
        · have hf := brT hc4 hf
          refine J_bipush (pc' := 49) (v := (-2)) d_Md_trip_47 rfl bc_m2 ?_
          obtain ⟨rfl, rfl⟩ := resE hf
          exact J_iret d_Md_trip_49
        · have hf := brF hc4 hf
          refine J_iload (pc' := 41) d_Md_trip_39 rfl 5 rfl ?_
          refine J_S (pc' := 44) (as := [.int v5]) (rest := []) (st' := [.int (f_Md_isOwner v5)]) d_Md_trip_41 rfl ms_Md_206 (ct_Md_isOwner V _ σ v5) rfl rfl ⟨Nat.le_of_ble_eq_true rfl, Nat.le_of_ble_eq_true rfl⟩ ⟨rfl, rfl⟩ (Nat.le_of_ble_eq_true rfl) rfl ?_
          refine J_if_ne (pc' := 47) (tgt := 50) d_Md_trip_44 rfl (by decide) (fun hc5 => ?_) (fun hc5 => ?_)
          · have hf := brF hc5 hf
            refine J_aload_n (pc' := 51) d_Md_trip_50 rfl 0 rfl ?_
            refine J_getI (pc' := 54) d_Md_trip_51 rfl sh_66 fl_Md_209 rfl ?_
            refine J_bipush (pc' := 56) (v := 20) d_Md_trip_54 rfl bc_20 ?_
            refine J_icmp_ne (pc' := 59) (tgt := 62) d_Md_trip_56 rfl (by decide) (fun hc6 => ?_) (fun hc6 => ?_)
            · have hf := brF hc6 hf
              refine J_aload_n (pc' := 63) d_Md_trip_62 rfl 0 rfl ?_
              refine J_getR (pc' := 66) d_Md_trip_63 rfl sh_66 fl_Md_37 rfl ?_
              refine J_iconst (pc' := 67) (v := 5) d_Md_trip_66 rfl ic_5 ?_
              refine J_aload_n (pc' := 68) d_Md_trip_67 rfl 0 rfl ?_
              refine J_getI (pc' := 71) d_Md_trip_68 rfl sh_66 fl_Md_209 rfl ?_
              refine J_imul (pc' := 72) d_Md_trip_71 rfl ?_
              refine J_iload_n (pc' := 73) d_Md_trip_72 rfl 1 rfl ?_
              obtain ⟨hg7, hf⟩ := gdE hf
              refine J_ias (pc' := 74) d_Md_trip_73 rfl sh_76 (vinP hg7) ?_
              refine J_aload_n (pc' := 75) d_Md_trip_74 rfl 0 rfl ?_
              refine J_getR (pc' := 78) d_Md_trip_75 rfl sh_66 fl_Md_37 rfl ?_
              refine J_iconst (pc' := 79) (v := 5) d_Md_trip_78 rfl ic_5 ?_
              refine J_aload_n (pc' := 80) d_Md_trip_79 rfl 0 rfl ?_
              refine J_getI (pc' := 83) d_Md_trip_80 rfl sh_66 fl_Md_209 rfl ?_
              refine J_imul (pc' := 84) d_Md_trip_83 rfl ?_
              refine J_iconst (pc' := 85) (v := 1) d_Md_trip_84 rfl ic_1 ?_
              refine J_iadd (pc' := 86) d_Md_trip_85 rfl ?_
              refine J_iload_n (pc' := 87) d_Md_trip_86 rfl 2 rfl ?_
              obtain ⟨hg8, hf⟩ := gdE hf
              refine J_ias (pc' := 88) d_Md_trip_87 rfl sh_76 (vinP hg8) ?_
              refine J_aload_n (pc' := 89) d_Md_trip_88 rfl 0 rfl ?_
              refine J_getR (pc' := 92) d_Md_trip_89 rfl sh_66 fl_Md_37 rfl ?_
              refine J_iconst (pc' := 93) (v := 5) d_Md_trip_92 rfl ic_5 ?_
              refine J_aload_n (pc' := 94) d_Md_trip_93 rfl 0 rfl ?_
              refine J_getI (pc' := 97) d_Md_trip_94 rfl sh_66 fl_Md_209 rfl ?_
              refine J_imul (pc' := 98) d_Md_trip_97 rfl ?_
              refine J_iconst (pc' := 99) (v := 2) d_Md_trip_98 rfl ic_2 ?_
              refine J_iadd (pc' := 100) d_Md_trip_99 rfl ?_
              refine J_iload_n (pc' := 101) d_Md_trip_100 rfl 3 rfl ?_
              obtain ⟨hg9, hf⟩ := gdE hf
              refine J_ias (pc' := 102) d_Md_trip_101 rfl sh_76 (vinP hg9) ?_
              refine J_aload_n (pc' := 103) d_Md_trip_102 rfl 0 rfl ?_
              refine J_getR (pc' := 106) d_Md_trip_103 rfl sh_66 fl_Md_37 rfl ?_
              refine J_iconst (pc' := 107) (v := 5) d_Md_trip_106 rfl ic_5 ?_
              refine J_aload_n (pc' := 108) d_Md_trip_107 rfl 0 rfl ?_
              refine J_getI (pc' := 111) d_Md_trip_108 rfl sh_66 fl_Md_209 rfl ?_
              refine J_imul (pc' := 112) d_Md_trip_111 rfl ?_
              refine J_iconst (pc' := 113) (v := 3) d_Md_trip_112 rfl ic_3 ?_
              refine J_iadd (pc' := 114) d_Md_trip_113 rfl ?_
              refine J_iload (pc' := 116) d_Md_trip_114 rfl 4 rfl ?_
              obtain ⟨hg10, hf⟩ := gdE hf
              refine J_ias (pc' := 117) d_Md_trip_116 rfl sh_76 (vinP hg10) ?_
              refine J_aload_n (pc' := 118) d_Md_trip_117 rfl 0 rfl ?_
              refine J_getR (pc' := 121) d_Md_trip_118 rfl sh_66 fl_Md_37 rfl ?_
              refine J_iconst (pc' := 122) (v := 5) d_Md_trip_121 rfl ic_5 ?_
              refine J_aload_n (pc' := 123) d_Md_trip_122 rfl 0 rfl ?_
              refine J_getI (pc' := 126) d_Md_trip_123 rfl sh_66 fl_Md_209 rfl ?_
              refine J_imul (pc' := 127) d_Md_trip_126 rfl ?_
              refine J_iconst (pc' := 128) (v := 4) d_Md_trip_127 rfl ic_4 ?_
              refine J_iadd (pc' := 129) d_Md_trip_128 rfl ?_
              refine J_iload (pc' := 131) d_Md_trip_129 rfl 5 rfl ?_
              obtain ⟨hg11, hf⟩ := gdE hf
              refine J_ias (pc' := 132) d_Md_trip_131 rfl sh_76 (vinP hg11) ?_
              refine J_aload_n (pc' := 133) d_Md_trip_132 rfl 0 rfl ?_
              refine J_dup (pc' := 134) d_Md_trip_133 rfl rfl ?_
              refine J_getI (pc' := 137) d_Md_trip_134 rfl sh_66 fl_Md_209 rfl ?_
              refine J_iconst (pc' := 138) (v := 1) d_Md_trip_137 rfl ic_1 ?_
              refine J_iadd (pc' := 139) d_Md_trip_138 rfl ?_
              refine J_putI (pc' := 142) d_Md_trip_139 rfl sh_66 fp_Md_209 rfl ?_
              refine J_aload_n (pc' := 143) d_Md_trip_142 rfl 0 rfl ?_
              refine J_getI (pc' := 146) d_Md_trip_143 rfl sh_66 fl_Md_209 rfl ?_
              refine J_iconst (pc' := 147) (v := 1) d_Md_trip_146 rfl ic_1 ?_
              refine J_isub (pc' := 148) d_Md_trip_147 rfl ?_
              obtain ⟨rfl, rfl⟩ := resE hf
              exact J_iret d_Md_trip_148
            · have hf := brT hc6 hf
              refine J_bipush (pc' := 61) (v := (-4)) d_Md_trip_59 rfl bc_m4 ?_
              obtain ⟨rfl, rfl⟩ := resE hf
              exact J_iret d_Md_trip_61
          · have hf := brT hc5 hf
            refine J_bipush (pc' := 49) (v := (-2)) d_Md_trip_47 rfl bc_m2 ?_
            obtain ⟨rfl, rfl⟩ := resE hf
            exact J_iret d_Md_trip_49
theorem ct_Md_trip (V : Vx) (l : Launch) (σ : Sg) (v1 : Int32) (v2 : Int32) (v3 : Int32) (v4 : Int32) (v5 : Int32) {r : Int32} {σ' : Sg} (hf : f_Md_trip σ v1 v2 v3 v4 v5 = some (r, σ')) : Ct V l y_Md_trip c_Md_trip 6 (some .int) (k2_rm 2 45) [rf V 66, .int v1, .int v2, .int v3, .int v4, .int v5] σ (some (.int r)) σ' := Ct.ofJ (by decide +kernel) (Nat.le_of_ble_eq_true rfl) fun X _ => j_Md_trip _ v1 v2 v3 v4 v5 hf
def f_Md_read_126 (k37 : Sg → Int32 → Int32 → Int32 → Int32 → Option (Int32 × Sg)) (σ : Sg) (v1 : Int32) (v2 : Int32) (v4 : Int32) (s0 : Int32) (s1 : Int32) : Option (Int32 × Sg) :=
  k37 σ v1 v2 (s1 + s0) v4
set_option maxHeartbeats 4000000 in
theorem j_Md_read_126 {V : Vx} {X : Xx} {r : Int32} {σ' : Sg} {k37 : Sg → Int32 → Int32 → Int32 → Int32 → Option (Int32 × Sg)} (hk37 : ∀ (σ : Sg) (v1 : Int32) (v2 : Int32) (v3 : Int32) (v4 : Int32), k37 σ v1 v2 v3 v4 = some (r, σ') → J V X (k2_rm 3 70) c_Md_read R_Md 6 (some .int) (Qr V X (some (.int r)) σ') σ 37 [(0, rf V 66), (1, .int v1), (2, .int v2), (3, .int v3), (4, .int v4)] []) (σ : Sg) (v1 : Int32) (v2 : Int32) (v4 : Int32) (s0 : Int32) (s1 : Int32) (hf : f_Md_read_126 k37 σ v1 v2 v4 s0 s1 = some (r, σ')) : J V X (k2_rm 3 70) c_Md_read R_Md 6 (some .int) (Qr V X (some (.int r)) σ') σ 126 [(0, rf V 66), (1, .int v1), (2, .int v2), (4, .int v4)] [.int s0, .int s1] := by
  unfold f_Md_read_126 at hf
  refine J_iadd (pc' := 127) d_Md_read_126 rfl ?_
  refine J_istore_n (pc' := 128) (lv' := [(3, .int (s1 + s0)), (0, rf V 66), (1, .int v1), (2, .int v2), (4, .int v4)]) d_Md_read_127 rfl rfl (by decide) rfl ?_
  refine J_goto (tgt := 37) d_Md_read_128 (by decide) ?_
  refine J_pick [1, 2, 3, 0, 4] rfl ?_
  exact hk37 _ _ _ _ _ hf
def f_Md_read_113 (k37 : Sg → Int32 → Int32 → Int32 → Int32 → Option (Int32 × Sg)) (σ : Sg) (v1 : Int32) (v2 : Int32) (v3 : Int32) (s0 : Int32) : Option (Int32 × Sg) :=
  if s0 = 0 then f_Md_read_126 k37 σ v1 v2 s0 0 v3 else f_Md_read_126 k37 σ v1 v2 s0 1 v3
set_option maxHeartbeats 4000000 in
theorem j_Md_read_113 {V : Vx} {X : Xx} {r : Int32} {σ' : Sg} {k37 : Sg → Int32 → Int32 → Int32 → Int32 → Option (Int32 × Sg)} (hk37 : ∀ (σ : Sg) (v1 : Int32) (v2 : Int32) (v3 : Int32) (v4 : Int32), k37 σ v1 v2 v3 v4 = some (r, σ') → J V X (k2_rm 3 70) c_Md_read R_Md 6 (some .int) (Qr V X (some (.int r)) σ') σ 37 [(0, rf V 66), (1, .int v1), (2, .int v2), (3, .int v3), (4, .int v4)] []) (σ : Sg) (v1 : Int32) (v2 : Int32) (v3 : Int32) (s0 : Int32) (hf : f_Md_read_113 k37 σ v1 v2 v3 s0 = some (r, σ')) : J V X (k2_rm 3 70) c_Md_read R_Md 6 (some .int) (Qr V X (some (.int r)) σ') σ 113 [(0, rf V 66), (1, .int v1), (2, .int v2), (3, .int v3)] [.int s0] := by
  unfold f_Md_read_113 at hf
  refine J_istore (pc' := 115) (lv' := [(4, .int s0), (0, rf V 66), (1, .int v1), (2, .int v2), (3, .int v3)]) d_Md_read_113 rfl (by decide) rfl ?_
  refine J_iload_n (pc' := 116) d_Md_read_115 rfl 4 rfl ?_
  refine J_iload (pc' := 118) d_Md_read_116 rfl 0 rfl ?_
  refine J_if_eq (pc' := 121) (tgt := 125) d_Md_read_118 rfl (by decide) (fun hc16 => ?_) (fun hc16 => ?_)
  · have hf := brT hc16 hf
    refine J_iconst (pc' := 126) (v := 0) d_Md_read_125 rfl ic_0 ?_
    refine J_pick [1, 2, 3, 0] rfl ?_
    exact j_Md_read_126 hk37 _ _ _ _ _ _ hf
  · have hf := brF hc16 hf
    refine J_iconst (pc' := 122) (v := 1) d_Md_read_121 rfl ic_1 ?_
    refine J_goto (tgt := 126) d_Md_read_122 (by decide) ?_
    refine J_pick [1, 2, 3, 0] rfl ?_
    exact j_Md_read_126 hk37 _ _ _ _ _ _ hf
def f_Md_read_37 : Nat → Sg → Int32 → Int32 → Int32 → Int32 → Option (Int32 × Sg)
  | 0, _, _, _, _, _ => none
  | n + 1, σ, v1, v2, v3, v4 =>
    if v4 = 0 then
      some (v3, σ)
    else
      gd (vin v1 4) (
        if (σ.1 68 v1.toNatClampNeg) < ((4 * v3) + 4) then
          some (v3, σ)
        else
          gd (vin ((60 * v1) + (4 * v3)) 240) (
            gd (vin (((60 * v1) + (4 * v3)) + 1) 240) (
              gd (vin (((60 * v1) + (4 * v3)) + 2) 240) (
                gd (vin (((60 * v1) + (4 * v3)) + 3) 240) (
                  bd (f_Md_trip σ (σ.1 69 ((60 * v1) + (4 * v3)).toNatClampNeg) (σ.1 69 (((60 * v1) + (4 * v3)) + 1).toNatClampNeg) (σ.1 69 (((60 * v1) + (4 * v3)) + 2).toNatClampNeg) (σ.1 69 (((60 * v1) + (4 * v3)) + 3).toNatClampNeg) v2) fun r14 σ13 =>
                    if r14 < 0 then f_Md_read_113 (f_Md_read_37 n) σ13 v1 v2 v3 0 else f_Md_read_113 (f_Md_read_37 n) σ13 v1 v2 v3 1)))))
theorem f_Md_read_37_s (n : Nat) (σ : Sg) (v1 : Int32) (v2 : Int32) (v3 : Int32) (v4 : Int32) : f_Md_read_37 (n + 1) σ v1 v2 v3 v4 =
    if v4 = 0 then
      some (v3, σ)
    else
      gd (vin v1 4) (
        if (σ.1 68 v1.toNatClampNeg) < ((4 * v3) + 4) then
          some (v3, σ)
        else
          gd (vin ((60 * v1) + (4 * v3)) 240) (
            gd (vin (((60 * v1) + (4 * v3)) + 1) 240) (
              gd (vin (((60 * v1) + (4 * v3)) + 2) 240) (
                gd (vin (((60 * v1) + (4 * v3)) + 3) 240) (
                  bd (f_Md_trip σ (σ.1 69 ((60 * v1) + (4 * v3)).toNatClampNeg) (σ.1 69 (((60 * v1) + (4 * v3)) + 1).toNatClampNeg) (σ.1 69 (((60 * v1) + (4 * v3)) + 2).toNatClampNeg) (σ.1 69 (((60 * v1) + (4 * v3)) + 3).toNatClampNeg) v2) fun r14 σ13 =>
                    if r14 < 0 then f_Md_read_113 (f_Md_read_37 n) σ13 v1 v2 v3 0 else f_Md_read_113 (f_Md_read_37 n) σ13 v1 v2 v3 1))))) := rfl
set_option maxHeartbeats 4000000 in
theorem j_Md_read_37 {V : Vx} {X : Xx} {r : Int32} {σ' : Sg}  : ∀ (n : Nat) (σ : Sg) (v1 : Int32) (v2 : Int32) (v3 : Int32) (v4 : Int32), f_Md_read_37 n σ v1 v2 v3 v4 = some (r, σ') → J V X (k2_rm 3 70) c_Md_read R_Md 6 (some .int) (Qr V X (some (.int r)) σ') σ 37 [(0, rf V 66), (1, .int v1), (2, .int v2), (3, .int v3), (4, .int v4)] [] := by
  intro n
  induction n with
  | zero => intro σ v1 v2 v3 v4 hf; exact nn hf
  | succ n ih =>
    intro σ v1 v2 v3 v4 hf
    rw [f_Md_read_37_s] at hf
    refine J_iload (pc' := 39) d_Md_read_37 rfl 4 rfl ?_
    refine J_if_eq (pc' := 42) (tgt := 131) d_Md_read_39 rfl (by decide) (fun hc5 => ?_) (fun hc5 => ?_)
    · have hf := brT hc5 hf
      refine J_iload_n (pc' := 132) d_Md_read_131 rfl 3 rfl ?_
      obtain ⟨rfl, rfl⟩ := resE hf
      exact J_iret d_Md_read_132
    · have hf := brF hc5 hf
      refine J_iconst (pc' := 43) (v := 4) d_Md_read_42 rfl ic_4 ?_
      refine J_iload_n (pc' := 44) d_Md_read_43 rfl 3 rfl ?_
      refine J_imul (pc' := 45) d_Md_read_44 rfl ?_
      refine J_iconst (pc' := 46) (v := 4) d_Md_read_45 rfl ic_4 ?_
      refine J_iadd (pc' := 47) d_Md_read_46 rfl ?_
      refine J_aload_n (pc' := 48) d_Md_read_47 rfl 0 rfl ?_
      refine J_getR (pc' := 51) d_Md_read_48 rfl sh_66 fl_Md_13 rfl ?_
      refine J_iload_n (pc' := 52) d_Md_read_51 rfl 1 rfl ?_
      obtain ⟨hg6, hf⟩ := gdE hf
      refine J_ial (pc' := 53) d_Md_read_52 rfl sh_68 (vinP hg6) ?_
      refine J_icmp_gt (pc' := 56) (tgt := 131) d_Md_read_53 rfl (by decide) (fun hc7 => ?_) (fun hc7 => ?_)
      · have hf := brT hc7 hf
        refine J_iload_n (pc' := 132) d_Md_read_131 rfl 3 rfl ?_
        obtain ⟨rfl, rfl⟩ := resE hf
        exact J_iret d_Md_read_132
      · have hf := brF hc7 hf
        refine J_bipush (pc' := 58) (v := 60) d_Md_read_56 rfl bc_60 ?_
        refine J_iload_n (pc' := 59) d_Md_read_58 rfl 1 rfl ?_
        refine J_imul (pc' := 60) d_Md_read_59 rfl ?_
        refine J_iconst (pc' := 61) (v := 4) d_Md_read_60 rfl ic_4 ?_
        refine J_iload_n (pc' := 62) d_Md_read_61 rfl 3 rfl ?_
        refine J_imul (pc' := 63) d_Md_read_62 rfl ?_
        refine J_iadd (pc' := 64) d_Md_read_63 rfl ?_
        refine J_istore (pc' := 66) (lv' := [(5, .int ((60 * v1) + (4 * v3))), (0, rf V 66), (1, .int v1), (2, .int v2), (3, .int v3), (4, .int v4)]) d_Md_read_64 rfl (by decide) rfl ?_
        refine J_aload_n (pc' := 67) d_Md_read_66 rfl 1 rfl ?_
        refine J_aload_n (pc' := 68) d_Md_read_67 rfl 1 rfl ?_
        refine J_getR (pc' := 71) d_Md_read_68 rfl sh_66 fl_Md_16 rfl ?_
        refine J_iload (pc' := 73) d_Md_read_71 rfl 0 rfl ?_
        obtain ⟨hg8, hf⟩ := gdE hf
        refine J_ial (pc' := 74) d_Md_read_73 rfl sh_69 (vinP hg8) ?_
        refine J_aload_n (pc' := 75) d_Md_read_74 rfl 1 rfl ?_
        refine J_getR (pc' := 78) d_Md_read_75 rfl sh_66 fl_Md_16 rfl ?_
        refine J_iload (pc' := 80) d_Md_read_78 rfl 0 rfl ?_
        refine J_iconst (pc' := 81) (v := 1) d_Md_read_80 rfl ic_1 ?_
        refine J_iadd (pc' := 82) d_Md_read_81 rfl ?_
        obtain ⟨hg9, hf⟩ := gdE hf
        refine J_ial (pc' := 83) d_Md_read_82 rfl sh_69 (vinP hg9) ?_
        refine J_aload_n (pc' := 84) d_Md_read_83 rfl 1 rfl ?_
        refine J_getR (pc' := 87) d_Md_read_84 rfl sh_66 fl_Md_16 rfl ?_
        refine J_iload (pc' := 89) d_Md_read_87 rfl 0 rfl ?_
        refine J_iconst (pc' := 90) (v := 2) d_Md_read_89 rfl ic_2 ?_
        refine J_iadd (pc' := 91) d_Md_read_90 rfl ?_
        obtain ⟨hg10, hf⟩ := gdE hf
        refine J_ial (pc' := 92) d_Md_read_91 rfl sh_69 (vinP hg10) ?_
        refine J_aload_n (pc' := 93) d_Md_read_92 rfl 1 rfl ?_
        refine J_getR (pc' := 96) d_Md_read_93 rfl sh_66 fl_Md_16 rfl ?_
        refine J_iload (pc' := 98) d_Md_read_96 rfl 0 rfl ?_
        refine J_iconst (pc' := 99) (v := 3) d_Md_read_98 rfl ic_3 ?_
        refine J_iadd (pc' := 100) d_Md_read_99 rfl ?_
        obtain ⟨hg11, hf⟩ := gdE hf
        refine J_ial (pc' := 101) d_Md_read_100 rfl sh_69 (vinP hg11) ?_
        refine J_iload_n (pc' := 102) d_Md_read_101 rfl 3 rfl ?_
        obtain ⟨r14, σ13, hq12, hf⟩ := bdE hf
        refine J_V (pc' := 105) (as := [.int (σ.1 69 ((60 * v1) + (4 * v3)).toNatClampNeg), .int (σ.1 69 (((60 * v1) + (4 * v3)) + 1).toNatClampNeg), .int (σ.1 69 (((60 * v1) + (4 * v3)) + 2).toNatClampNeg), .int (σ.1 69 (((60 * v1) + (4 * v3)) + 3).toNatClampNeg), .int v2]) (rest := []) (st' := [.int r14]) d_Md_read_102 rfl sh_66 rfl mv_Md_212 (ct_Md_trip V _ σ (σ.1 69 ((60 * v1) + (4 * v3)).toNatClampNeg) (σ.1 69 (((60 * v1) + (4 * v3)) + 1).toNatClampNeg) (σ.1 69 (((60 * v1) + (4 * v3)) + 2).toNatClampNeg) (σ.1 69 (((60 * v1) + (4 * v3)) + 3).toNatClampNeg) v2 hq12) rfl rfl ⟨Nat.le_of_ble_eq_true rfl, Nat.le_of_ble_eq_true rfl⟩ ⟨rfl, rfl⟩ (Nat.le_of_ble_eq_true rfl) rfl ?_
        refine J_if_lt (pc' := 108) (tgt := 112) d_Md_read_105 rfl (by decide) (fun hc15 => ?_) (fun hc15 => ?_)
        · have hf := brT hc15 hf
          refine J_iconst (pc' := 113) (v := 0) d_Md_read_112 rfl ic_0 ?_
          refine J_pick [1, 2, 3, 4] rfl ?_
          exact j_Md_read_113 ih _ _ _ _ _ hf
        · have hf := brF hc15 hf
          refine J_iconst (pc' := 109) (v := 1) d_Md_read_108 rfl ic_1 ?_
          refine J_goto (tgt := 113) d_Md_read_109 (by decide) ?_
          refine J_pick [1, 2, 3, 4] rfl ?_
          exact j_Md_read_113 ih _ _ _ _ _ hf
def f_Md_read (σ : Sg) (v1 : Int32) (v2 : Int32) : Option (Int32 × Sg) :=
  if (f_Md_isSheet v1) = 0 then
    some ((-2), σ)
  else
    if (f_Md_isOwner v2) = 0 then
      some ((-2), σ)
    else
      gd (vin v1 4) (
        if 0 ≤ (σ.1 67 v1.toNatClampNeg) then
          f_Md_read_37 FU σ v1 v2 0 1
        else
          bd (f_Md_met σ 1) fun r19 σ18 =>
            some (r19, σ18))
set_option maxHeartbeats 4000000 in
theorem j_Md_read {V : Vx} {X : Xx} {r : Int32} {σ' : Sg} (σ : Sg) (v1 : Int32) (v2 : Int32) (hf : f_Md_read σ v1 v2 = some (r, σ')) : J V X (k2_rm 3 70) c_Md_read R_Md 6 (some .int) (Qr V X (some (.int r)) σ') σ 0 [(0, rf V 66), (1, .int v1), (2, .int v2)] [] := by
  unfold f_Md_read at hf
  refine J_iload_n (pc' := 1) d_Md_read_0 rfl 1 rfl ?_
  refine J_S (pc' := 4) (as := [.int v1]) (rest := []) (st' := [.int (f_Md_isSheet v1)]) d_Md_read_1 rfl ms_Md_87 (ct_Md_isSheet V _ σ v1) rfl rfl ⟨Nat.le_of_ble_eq_true rfl, Nat.le_of_ble_eq_true rfl⟩ ⟨rfl, rfl⟩ (Nat.le_of_ble_eq_true rfl) rfl ?_
  refine J_if_eq (pc' := 7) (tgt := 14) d_Md_read_4 rfl (by decide) (fun hc1 => ?_) (fun hc1 => ?_)
  · have hf := brT hc1 hf
    refine J_bipush (pc' := 16) (v := (-2)) d_Md_read_14 rfl bc_m2 ?_
    obtain ⟨rfl, rfl⟩ := resE hf
    exact J_iret d_Md_read_16
  · have hf := brF hc1 hf
    refine J_iload_n (pc' := 8) d_Md_read_7 rfl 2 rfl ?_
    refine J_S (pc' := 11) (as := [.int v2]) (rest := []) (st' := [.int (f_Md_isOwner v2)]) d_Md_read_8 rfl ms_Md_206 (ct_Md_isOwner V _ σ v2) rfl rfl ⟨Nat.le_of_ble_eq_true rfl, Nat.le_of_ble_eq_true rfl⟩ ⟨rfl, rfl⟩ (Nat.le_of_ble_eq_true rfl) rfl ?_
    refine J_if_ne (pc' := 14) (tgt := 17) d_Md_read_11 rfl (by decide) (fun hc2 => ?_) (fun hc2 => ?_)
    · have hf := brF hc2 hf
      refine J_aload_n (pc' := 18) d_Md_read_17 rfl 0 rfl ?_
      refine J_getR (pc' := 21) d_Md_read_18 rfl sh_66 fl_Md_7 rfl ?_
      refine J_iload_n (pc' := 22) d_Md_read_21 rfl 1 rfl ?_
      obtain ⟨hg3, hf⟩ := gdE hf
      refine J_ial (pc' := 23) d_Md_read_22 rfl sh_67 (vinP hg3) ?_
      refine J_if_ge (pc' := 26) (tgt := 32) d_Md_read_23 rfl (by decide) (fun hc4 => ?_) (fun hc4 => ?_)
      · have hf := brT hc4 hf
        refine J_iconst (pc' := 33) (v := 0) d_Md_read_32 rfl ic_0 ?_
        refine J_istore_n (pc' := 34) (lv' := [(3, .int 0), (0, rf V 66), (1, .int v1), (2, .int v2)]) d_Md_read_33 rfl rfl (by decide) rfl ?_
        refine J_iconst (pc' := 35) (v := 1) d_Md_read_34 rfl ic_1 ?_
        refine J_istore (pc' := 37) (lv' := [(4, .int 1), (3, .int 0), (0, rf V 66), (1, .int v1), (2, .int v2)]) d_Md_read_35 rfl (by decide) rfl ?_
        refine J_pick [2, 3, 4, 1, 0] rfl ?_
        exact j_Md_read_37 FU _ _ _ _ _ hf
      · have hf := brF hc4 hf
        refine J_aload_n (pc' := 27) d_Md_read_26 rfl 0 rfl ?_
        refine J_iconst (pc' := 28) (v := 1) d_Md_read_27 rfl ic_1 ?_
        obtain ⟨r19, σ18, hq17, hf⟩ := bdE hf
        refine J_V (pc' := 31) (as := [.int 1]) (rest := []) (st' := [.int r19]) d_Md_read_28 rfl sh_66 rfl mv_Md_93 (ct_Md_met V _ σ 1 hq17) rfl rfl ⟨Nat.le_of_ble_eq_true rfl, Nat.le_of_ble_eq_true rfl⟩ ⟨rfl, rfl⟩ (Nat.le_of_ble_eq_true rfl) rfl ?_
        obtain ⟨rfl, rfl⟩ := resE hf
        exact J_iret d_Md_read_31
    · have hf := brT hc2 hf
      refine J_bipush (pc' := 16) (v := (-2)) d_Md_read_14 rfl bc_m2 ?_
      obtain ⟨rfl, rfl⟩ := resE hf
      exact J_iret d_Md_read_16
theorem ct_Md_read (V : Vx) (l : Launch) (σ : Sg) (v1 : Int32) (v2 : Int32) {r : Int32} {σ' : Sg} (hf : f_Md_read σ v1 v2 = some (r, σ')) : Ct V l y_Md_read c_Md_read 6 (some .int) (k2_rm 3 70) [rf V 66, .int v1, .int v2] σ (some (.int r)) σ' := Ct.ofJ (by decide +kernel) (Nat.le_of_ble_eq_true rfl) fun X _ => j_Md_read _ v1 v2 hf
def f_Md_undo (σ : Sg)  : Option (Int32 × Sg) :=
  if (σ.1 66 14) = 0 then some ((-3), σ) else some ((pI σ 66 14 ((σ.1 66 14) - 1)).1 66 14, (pI σ 66 14 ((σ.1 66 14) - 1)))
set_option maxHeartbeats 4000000 in
theorem j_Md_undo {V : Vx} {X : Xx} {r : Int32} {σ' : Sg} (σ : Sg) (hf : f_Md_undo σ = some (r, σ')) : J V X (k2_rm 0 0) c_Md_undo R_Md 1 (some .int) (Qr V X (some (.int r)) σ') σ 0 [(0, rf V 66)] [] := by
  unfold f_Md_undo at hf
  refine J_aload_n (pc' := 1) d_Md_undo_0 rfl 0 rfl ?_
  refine J_getI (pc' := 4) d_Md_undo_1 rfl sh_66 fl_Md_209 rfl ?_
  refine J_if_ne (pc' := 7) (tgt := 10) d_Md_undo_4 rfl (by decide) (fun hc1 => ?_) (fun hc1 => ?_)
  · have hf := brF hc1 hf
    refine J_aload_n (pc' := 11) d_Md_undo_10 rfl 0 rfl ?_
    refine J_dup (pc' := 12) d_Md_undo_11 rfl rfl ?_
    refine J_getI (pc' := 15) d_Md_undo_12 rfl sh_66 fl_Md_209 rfl ?_
    refine J_iconst (pc' := 16) (v := 1) d_Md_undo_15 rfl ic_1 ?_
    refine J_isub (pc' := 17) d_Md_undo_16 rfl ?_
    refine J_putI (pc' := 20) d_Md_undo_17 rfl sh_66 fp_Md_209 rfl ?_
    refine J_aload_n (pc' := 21) d_Md_undo_20 rfl 0 rfl ?_
    refine J_getI (pc' := 24) d_Md_undo_21 rfl sh_66 fl_Md_209 rfl ?_
    obtain ⟨rfl, rfl⟩ := resE hf
    exact J_iret d_Md_undo_24
  · have hf := brT hc1 hf
    refine J_bipush (pc' := 9) (v := (-3)) d_Md_undo_7 rfl bc_m3 ?_
    obtain ⟨rfl, rfl⟩ := resE hf
    exact J_iret d_Md_undo_9
theorem ct_Md_undo (V : Vx) (l : Launch) (σ : Sg) {r : Int32} {σ' : Sg} (hf : f_Md_undo σ = some (r, σ')) : Ct V l y_Md_undo c_Md_undo 1 (some .int) (k2_rm 0 0) [rf V 66] σ (some (.int r)) σ' := Ct.ofJ (by decide +kernel) (Nat.le_of_ble_eq_true rfl) fun X _ => j_Md_undo _  hf
def f_Md_isTrip (σ : Sg) (v1 : Int32) : Int32 :=
  zb (f_Md_in v1.toInt64 0 (((σ.1 66 14) - 1).toInt64))
set_option maxHeartbeats 4000000 in
theorem j_Md_isTrip {V : Vx} {X : Xx} {r : Int32} (σ : Sg) (v1 : Int32) (hf : f_Md_isTrip σ v1 = r) : J V X (k2_rm 1 25) c_Md_isTrip R_Md 2 (some .boolean) (Qr V X (some (.int r)) σ) σ 0 [(0, rf V 66), (1, .int v1)] [] := by
  unfold f_Md_isTrip at hf
  refine J_iload_n (pc' := 1) d_Md_isTrip_0 rfl 1 rfl ?_
  refine J_i2l (pc' := 2) d_Md_isTrip_1 rfl ?_
  refine J_lconst (pc' := 3) (v := 0) d_Md_isTrip_2 rfl lc_0 ?_
  refine J_aload_n (pc' := 4) d_Md_isTrip_3 rfl 0 rfl ?_
  refine J_getI (pc' := 7) d_Md_isTrip_4 rfl sh_66 fl_Md_209 rfl ?_
  refine J_iconst (pc' := 8) (v := 1) d_Md_isTrip_7 rfl ic_1 ?_
  refine J_isub (pc' := 9) d_Md_isTrip_8 rfl ?_
  refine J_i2l (pc' := 10) d_Md_isTrip_9 rfl ?_
  refine J_S (pc' := 13) (as := [.long v1.toInt64, .long 0, .long (((σ.1 66 14) - 1).toInt64)]) (rest := []) (st' := [.int (f_Md_in v1.toInt64 0 (((σ.1 66 14) - 1).toInt64))]) d_Md_isTrip_10 rfl ms_Md_73 (ct_Md_in V _ σ v1.toInt64 0 (((σ.1 66 14) - 1).toInt64)) rfl rfl ⟨Nat.le_of_ble_eq_true rfl, Nat.le_of_ble_eq_true rfl⟩ ⟨rfl, rfl⟩ (Nat.le_of_ble_eq_true rfl) rfl ?_
  subst hf
  exact J_zretG d_Md_isTrip_13
theorem ct_Md_isTrip (V : Vx) (l : Launch) (σ : Sg) (v1 : Int32) : Ct V l y_Md_isTrip c_Md_isTrip 2 (some .boolean) (k2_rm 1 25) [rf V 66, .int v1] σ (some (.int (f_Md_isTrip σ v1))) σ := Ct.ofJ (by decide +kernel) (Nat.le_of_ble_eq_true rfl) fun X _ => j_Md_isTrip _ v1 rfl
def f_Md_asTold_7 : Nat → Sg → Int32 → Option Sg
  | 0, _, _ => none
  | n + 1, σ, v1 =>
    if (σ.1 66 14) ≤ v1 then
      some σ
    else
      gd (vin ((5 * v1) + 2) 100) (
        gd (vin v1 20) (
          f_Md_asTold_7 n (pI σ 77 v1.toNatClampNeg (σ.1 76 ((5 * v1) + 2).toNatClampNeg)) (v1 + 1)))
theorem f_Md_asTold_7_s (n : Nat) (σ : Sg) (v1 : Int32) : f_Md_asTold_7 (n + 1) σ v1 =
    if (σ.1 66 14) ≤ v1 then
      some σ
    else
      gd (vin ((5 * v1) + 2) 100) (
        gd (vin v1 20) (
          f_Md_asTold_7 n (pI σ 77 v1.toNatClampNeg (σ.1 76 ((5 * v1) + 2).toNatClampNeg)) (v1 + 1))) := rfl
set_option maxHeartbeats 4000000 in
theorem j_Md_asTold_7 {V : Vx} {X : Xx} {σ' : Sg}  : ∀ (n : Nat) (σ : Sg) (v1 : Int32), f_Md_asTold_7 n σ v1 = some σ' → J V X (k2_rm 4 91) c_Md_asTold R_Md 2 none (Qr V X none σ') σ 7 [(0, rf V 66), (1, .int v1)] [] := by
  intro n
  induction n with
  | zero => intro σ v1 hf; exact nn hf
  | succ n ih =>
    intro σ v1 hf
    rw [f_Md_asTold_7_s] at hf
    refine J_iload_n (pc' := 8) d_Md_asTold_7 rfl 1 rfl ?_
    refine J_aload_n (pc' := 9) d_Md_asTold_8 rfl 0 rfl ?_
    refine J_getI (pc' := 12) d_Md_asTold_9 rfl sh_66 fl_Md_209 rfl ?_
    refine J_icmp_ge (pc' := 15) (tgt := 37) d_Md_asTold_12 rfl (by decide) (fun hc4 => ?_) (fun hc4 => ?_)
    · have hf := brT hc4 hf
      obtain rfl := Option.some.inj hf
      exact J_vret d_Md_asTold_37
    · have hf := brF hc4 hf
      refine J_aload_n (pc' := 16) d_Md_asTold_15 rfl 0 rfl ?_
      refine J_getR (pc' := 19) d_Md_asTold_16 rfl sh_66 fl_Md_40 rfl ?_
      refine J_iload_n (pc' := 20) d_Md_asTold_19 rfl 1 rfl ?_
      refine J_aload_n (pc' := 21) d_Md_asTold_20 rfl 0 rfl ?_
      refine J_getR (pc' := 24) d_Md_asTold_21 rfl sh_66 fl_Md_37 rfl ?_
      refine J_iconst (pc' := 25) (v := 5) d_Md_asTold_24 rfl ic_5 ?_
      refine J_iload_n (pc' := 26) d_Md_asTold_25 rfl 1 rfl ?_
      refine J_imul (pc' := 27) d_Md_asTold_26 rfl ?_
      refine J_iconst (pc' := 28) (v := 2) d_Md_asTold_27 rfl ic_2 ?_
      refine J_iadd (pc' := 29) d_Md_asTold_28 rfl ?_
      obtain ⟨hg5, hf⟩ := gdE hf
      refine J_ial (pc' := 30) d_Md_asTold_29 rfl sh_76 (vinP hg5) ?_
      obtain ⟨hg6, hf⟩ := gdE hf
      refine J_ias (pc' := 31) d_Md_asTold_30 rfl sh_77 (vinP hg6) ?_
      refine J_iinc (pc' := 34) (j := 1) (v := 1) (lv' := [(1, .int (v1 + 1)), (0, rf V 66)]) d_Md_asTold_31 rfl rfl ic_1 (by decide) rfl ?_
      refine J_goto (tgt := 7) d_Md_asTold_34 (by decide) ?_
      refine J_pick [1, 0] rfl ?_
      exact ih _ _ hf
def f_Md_asTold (σ : Sg)  : Option Sg :=
  bd (f_Md_find σ) fun r3 σ2 =>
    f_Md_asTold_7 FU σ2 0
set_option maxHeartbeats 4000000 in
theorem j_Md_asTold {V : Vx} {X : Xx} {σ' : Sg} (σ : Sg) (hf : f_Md_asTold σ = some σ') : J V X (k2_rm 4 91) c_Md_asTold R_Md 2 none (Qr V X none σ') σ 0 [(0, rf V 66)] [] := by
  unfold f_Md_asTold at hf
  refine J_aload_n (pc' := 1) d_Md_asTold_0 rfl 0 rfl ?_
  obtain ⟨r3, σ2, hq1, hf⟩ := bdE hf
  refine J_V (pc' := 4) (as := []) (rest := []) (st' := [.int r3]) d_Md_asTold_1 rfl sh_66 rfl mv_Md_137 (ct_Md_find V _ σ hq1) rfl rfl ⟨Nat.le_of_ble_eq_true rfl, Nat.le_of_ble_eq_true rfl⟩ ⟨rfl, rfl⟩ (Nat.le_of_ble_eq_true rfl) rfl ?_
  refine J_pop (pc' := 5) d_Md_asTold_4 rfl rfl ?_
  refine J_iconst (pc' := 6) (v := 0) d_Md_asTold_5 rfl ic_0 ?_
  refine J_istore_n (pc' := 7) (lv' := [(1, .int 0), (0, rf V 66)]) d_Md_asTold_6 rfl rfl (by decide) rfl ?_
  refine J_pick [1, 0] rfl ?_
  exact j_Md_asTold_7 FU _ _ hf
theorem ct_Md_asTold (V : Vx) (l : Launch) (σ : Sg) {σ' : Sg} (hf : f_Md_asTold σ = some σ') : Ct V l y_Md_asTold c_Md_asTold 2 none (k2_rm 4 91) [rf V 66] σ none σ' := Ct.ofJ (by decide +kernel) (Nat.le_of_ble_eq_true rfl) fun X _ => j_Md_asTold _  hf
def f_Md_counts (σ : Sg) (v1 : Int32) : Option Int32 :=
  gd (vin (5 * v1) 100) (
    some (zb (f_Md_isRope σ (σ.1 76 (5 * v1).toNatClampNeg))))
set_option maxHeartbeats 4000000 in
theorem j_Md_counts {V : Vx} {X : Xx} {r : Int32} (σ : Sg) (v1 : Int32) (hf : f_Md_counts σ v1 = some r) : J V X (k2_rm 2 46) c_Md_counts R_Md 2 (some .boolean) (Qr V X (some (.int r)) σ) σ 0 [(0, rf V 66), (1, .int v1)] [] := by
  unfold f_Md_counts at hf
  refine J_aload_n (pc' := 1) d_Md_counts_0 rfl 0 rfl ?_
  refine J_aload_n (pc' := 2) d_Md_counts_1 rfl 0 rfl ?_
  refine J_getR (pc' := 5) d_Md_counts_2 rfl sh_66 fl_Md_37 rfl ?_
  refine J_iconst (pc' := 6) (v := 5) d_Md_counts_5 rfl ic_5 ?_
  refine J_iload_n (pc' := 7) d_Md_counts_6 rfl 1 rfl ?_
  refine J_imul (pc' := 8) d_Md_counts_7 rfl ?_
  obtain ⟨hg1, hf⟩ := gdE hf
  refine J_ial (pc' := 9) d_Md_counts_8 rfl sh_76 (vinP hg1) ?_
  refine J_V (pc' := 12) (as := [.int (σ.1 76 (5 * v1).toNatClampNeg)]) (rest := []) (st' := [.int (f_Md_isRope σ (σ.1 76 (5 * v1).toNatClampNeg))]) d_Md_counts_9 rfl sh_66 rfl mv_Md_128 (ct_Md_isRope V _ σ (σ.1 76 (5 * v1).toNatClampNeg)) rfl rfl ⟨Nat.le_of_ble_eq_true rfl, Nat.le_of_ble_eq_true rfl⟩ ⟨rfl, rfl⟩ (Nat.le_of_ble_eq_true rfl) rfl ?_
  obtain rfl := Option.some.inj hf
  exact J_zretG d_Md_counts_12
theorem ct_Md_counts (V : Vx) (l : Launch) (σ : Sg) (v1 : Int32) {r : Int32} (hf : f_Md_counts σ v1 = some r) : Ct V l y_Md_counts c_Md_counts 2 (some .boolean) (k2_rm 2 46) [rf V 66, .int v1] σ (some (.int r)) σ := Ct.ofJ (by decide +kernel) (Nat.le_of_ble_eq_true rfl) fun X _ => j_Md_counts _ v1 hf
def f_Md_lasts (σ : Sg) (v1 : Int32) : Option Int32 :=
  gd (vin (5 * v1) 100) (
    gd (vin ((5 * v1) + 1) 100) (
      (f_Md_minutes σ (σ.1 76 (5 * v1).toNatClampNeg) (σ.1 76 ((5 * v1) + 1).toNatClampNeg)).bind fun r4 =>
        some r4))
set_option maxHeartbeats 4000000 in
theorem j_Md_lasts {V : Vx} {X : Xx} {r : Int32} (σ : Sg) (v1 : Int32) (hf : f_Md_lasts σ v1 = some r) : J V X (k2_rm 2 45) c_Md_lasts R_Md 2 (some .int) (Qr V X (some (.int r)) σ) σ 0 [(0, rf V 66), (1, .int v1)] [] := by
  unfold f_Md_lasts at hf
  refine J_aload_n (pc' := 1) d_Md_lasts_0 rfl 0 rfl ?_
  refine J_aload_n (pc' := 2) d_Md_lasts_1 rfl 0 rfl ?_
  refine J_getR (pc' := 5) d_Md_lasts_2 rfl sh_66 fl_Md_37 rfl ?_
  refine J_iconst (pc' := 6) (v := 5) d_Md_lasts_5 rfl ic_5 ?_
  refine J_iload_n (pc' := 7) d_Md_lasts_6 rfl 1 rfl ?_
  refine J_imul (pc' := 8) d_Md_lasts_7 rfl ?_
  obtain ⟨hg1, hf⟩ := gdE hf
  refine J_ial (pc' := 9) d_Md_lasts_8 rfl sh_76 (vinP hg1) ?_
  refine J_aload_n (pc' := 10) d_Md_lasts_9 rfl 0 rfl ?_
  refine J_getR (pc' := 13) d_Md_lasts_10 rfl sh_66 fl_Md_37 rfl ?_
  refine J_iconst (pc' := 14) (v := 5) d_Md_lasts_13 rfl ic_5 ?_
  refine J_iload_n (pc' := 15) d_Md_lasts_14 rfl 1 rfl ?_
  refine J_imul (pc' := 16) d_Md_lasts_15 rfl ?_
  refine J_iconst (pc' := 17) (v := 1) d_Md_lasts_16 rfl ic_1 ?_
  refine J_iadd (pc' := 18) d_Md_lasts_17 rfl ?_
  obtain ⟨hg2, hf⟩ := gdE hf
  refine J_ial (pc' := 19) d_Md_lasts_18 rfl sh_76 (vinP hg2) ?_
  obtain ⟨r4, hq3, hf⟩ := bpE hf
  refine J_V (pc' := 22) (as := [.int (σ.1 76 (5 * v1).toNatClampNeg), .int (σ.1 76 ((5 * v1) + 1).toNatClampNeg)]) (rest := []) (st' := [.int r4]) d_Md_lasts_19 rfl sh_66 rfl mv_Md_192 (ct_Md_minutes V _ σ (σ.1 76 (5 * v1).toNatClampNeg) (σ.1 76 ((5 * v1) + 1).toNatClampNeg) hq3) rfl rfl ⟨Nat.le_of_ble_eq_true rfl, Nat.le_of_ble_eq_true rfl⟩ ⟨rfl, rfl⟩ (Nat.le_of_ble_eq_true rfl) rfl ?_
  obtain rfl := Option.some.inj hf
  exact J_iret d_Md_lasts_22
theorem ct_Md_lasts (V : Vx) (l : Launch) (σ : Sg) (v1 : Int32) {r : Int32} (hf : f_Md_lasts σ v1 = some r) : Ct V l y_Md_lasts c_Md_lasts 2 (some .int) (k2_rm 2 45) [rf V 66, .int v1] σ (some (.int r)) σ := Ct.ofJ (by decide +kernel) (Nat.le_of_ble_eq_true rfl) fun X _ => j_Md_lasts _ v1 hf
def f_Md_moment_29 (σ : Sg) (v1 : Int32) (s0 : Int32) : Option Int32 :=
  gd (vin v1 20) (
    (f_Md_lasts σ v1).bind fun r5 =>
      some (((σ.1 77 v1.toNatClampNeg) * (σ.1 66 13)) + (r5 * s0)))
set_option maxHeartbeats 4000000 in
theorem j_Md_moment_29 {V : Vx} {X : Xx} {σ : Sg} {r : Int32}  (v1 : Int32) (s0 : Int32) (hf : f_Md_moment_29 σ v1 s0 = some r) : J V X (k2_rm 3 66) c_Md_moment R_Md 3 (some .int) (Qr V X (some (.int r)) σ) σ 29 [(0, rf V 66), (1, .int v1)] [.int s0] := by
  unfold f_Md_moment_29 at hf
  refine J_istore_n (pc' := 30) (lv' := [(2, .int s0), (0, rf V 66), (1, .int v1)]) d_Md_moment_29 rfl rfl (by decide) rfl ?_
  refine J_aload_n (pc' := 31) d_Md_moment_30 rfl 1 rfl ?_
  refine J_getR (pc' := 34) d_Md_moment_31 rfl sh_66 fl_Md_40 rfl ?_
  refine J_iload_n (pc' := 35) d_Md_moment_34 rfl 2 rfl ?_
  obtain ⟨hg3, hf⟩ := gdE hf
  refine J_ial (pc' := 36) d_Md_moment_35 rfl sh_77 (vinP hg3) ?_
  refine J_aload_n (pc' := 37) d_Md_moment_36 rfl 1 rfl ?_
  refine J_getI (pc' := 40) d_Md_moment_37 rfl sh_66 fl_Md_167 rfl ?_
  refine J_imul (pc' := 41) d_Md_moment_40 rfl ?_
  refine J_aload_n (pc' := 42) d_Md_moment_41 rfl 1 rfl ?_
  refine J_iload_n (pc' := 43) d_Md_moment_42 rfl 2 rfl ?_
  obtain ⟨r5, hq4, hf⟩ := bpE hf
  refine J_V (pc' := 46) (as := [.int v1]) (rest := [.int ((σ.1 77 v1.toNatClampNeg) * (σ.1 66 13))]) (st' := [.int r5, .int ((σ.1 77 v1.toNatClampNeg) * (σ.1 66 13))]) d_Md_moment_43 rfl sh_66 rfl mv_Md_216 (ct_Md_lasts V _ σ v1 hq4) rfl rfl ⟨Nat.le_of_ble_eq_true rfl, Nat.le_of_ble_eq_true rfl⟩ ⟨rfl, rfl⟩ (Nat.le_of_ble_eq_true rfl) rfl ?_
  refine J_iload_n (pc' := 47) d_Md_moment_46 rfl 0 rfl ?_
  refine J_imul (pc' := 48) d_Md_moment_47 rfl ?_
  refine J_iadd (pc' := 49) d_Md_moment_48 rfl ?_
  obtain rfl := Option.some.inj hf
  exact J_iret d_Md_moment_49
def f_Md_moment (σ : Sg) (v1 : Int32) : Option Int32 :=
  gd (vin ((5 * v1) + 1) 100) (
    if (σ.1 76 ((5 * v1) + 1).toNatClampNeg) = 0 then f_Md_moment_29 σ v1 (σ.1 66 12) else f_Md_moment_29 σ v1 ((σ.1 66 13) - (σ.1 66 12)))
set_option maxHeartbeats 4000000 in
theorem j_Md_moment {V : Vx} {X : Xx} {r : Int32} (σ : Sg) (v1 : Int32) (hf : f_Md_moment σ v1 = some r) : J V X (k2_rm 3 66) c_Md_moment R_Md 3 (some .int) (Qr V X (some (.int r)) σ) σ 0 [(0, rf V 66), (1, .int v1)] [] := by
  unfold f_Md_moment at hf
  refine J_aload_n (pc' := 1) d_Md_moment_0 rfl 0 rfl ?_
  refine J_getR (pc' := 4) d_Md_moment_1 rfl sh_66 fl_Md_37 rfl ?_
  refine J_iconst (pc' := 5) (v := 5) d_Md_moment_4 rfl ic_5 ?_
  refine J_iload_n (pc' := 6) d_Md_moment_5 rfl 1 rfl ?_
  refine J_imul (pc' := 7) d_Md_moment_6 rfl ?_
  refine J_iconst (pc' := 8) (v := 1) d_Md_moment_7 rfl ic_1 ?_
  refine J_iadd (pc' := 9) d_Md_moment_8 rfl ?_
  obtain ⟨hg1, hf⟩ := gdE hf
  refine J_ial (pc' := 10) d_Md_moment_9 rfl sh_76 (vinP hg1) ?_
  refine J_if_ne (pc' := 13) (tgt := 20) d_Md_moment_10 rfl (by decide) (fun hc2 => ?_) (fun hc2 => ?_)
  · have hf := brF hc2 hf
    refine J_aload_n (pc' := 21) d_Md_moment_20 rfl 0 rfl ?_
    refine J_getI (pc' := 24) d_Md_moment_21 rfl sh_66 fl_Md_167 rfl ?_
    refine J_aload_n (pc' := 25) d_Md_moment_24 rfl 0 rfl ?_
    refine J_getI (pc' := 28) d_Md_moment_25 rfl sh_66 fl_Md_164 rfl ?_
    refine J_isub (pc' := 29) d_Md_moment_28 rfl ?_
    exact j_Md_moment_29 _ _ hf
  · have hf := brT hc2 hf
    refine J_aload_n (pc' := 14) d_Md_moment_13 rfl 0 rfl ?_
    refine J_getI (pc' := 17) d_Md_moment_14 rfl sh_66 fl_Md_164 rfl ?_
    refine J_goto (tgt := 29) d_Md_moment_17 (by decide) ?_
    exact j_Md_moment_29 _ _ hf
theorem ct_Md_moment (V : Vx) (l : Launch) (σ : Sg) (v1 : Int32) {r : Int32} (hf : f_Md_moment σ v1 = some r) : Ct V l y_Md_moment c_Md_moment 3 (some .int) (k2_rm 3 66) [rf V 66, .int v1] σ (some (.int r)) σ := Ct.ofJ (by decide +kernel) (Nat.le_of_ble_eq_true rfl) fun X _ => j_Md_moment _ v1 hf
