theorem dX9_timesBig_67 : decode cX9_timesBig 67 = .ok (.iload 6, 2) := by decide +kernel
theorem dX9_timesBig_69 : decode cX9_timesBig 69 = .ok (.iadd, 1) := by decide +kernel
theorem dX9_timesBig_70 : decode cX9_timesBig 70 = .ok (.iaload, 1) := by decide +kernel
theorem dX9_timesBig_71 : decode cX9_timesBig 71 = .ok (.i2l, 1) := by decide +kernel
theorem dX9_timesBig_72 : decode cX9_timesBig 72 = .ok (.aload_n 1, 1) := by decide +kernel
theorem dX9_timesBig_73 : decode cX9_timesBig 73 = .ok (.iload 11, 2) := by decide +kernel
theorem dX9_timesBig_75 : decode cX9_timesBig 75 = .ok (.iaload, 1) := by decide +kernel
theorem dX9_timesBig_76 : decode cX9_timesBig 76 = .ok (.i2l, 1) := by decide +kernel
theorem dX9_timesBig_77 : decode cX9_timesBig 77 = .ok (.lload 7, 2) := by decide +kernel
theorem dX9_timesBig_79 : decode cX9_timesBig 79 = .ok (.lmul, 1) := by decide +kernel
theorem dX9_timesBig_80 : decode cX9_timesBig 80 = .ok (.ladd, 1) := by decide +kernel
theorem dX9_timesBig_81 : decode cX9_timesBig 81 = .ok (.lload 9, 2) := by decide +kernel
theorem dX9_timesBig_83 : decode cX9_timesBig 83 = .ok (.ladd, 1) := by decide +kernel
theorem dX9_timesBig_84 : decode cX9_timesBig 84 = .ok (.lstore 12, 2) := by decide +kernel
theorem dX9_timesBig_86 : decode cX9_timesBig 86 = .ok (.aload_n 0, 1) := by decide +kernel
theorem dX9_timesBig_87 : decode cX9_timesBig 87 = .ok (.getfield 60, 3) := by decide +kernel
theorem dX9_timesBig_90 : decode cX9_timesBig 90 = .ok (.iload 11, 2) := by decide +kernel
theorem dX9_timesBig_92 : decode cX9_timesBig 92 = .ok (.iload 6, 2) := by decide +kernel
theorem dX9_timesBig_94 : decode cX9_timesBig 94 = .ok (.iadd, 1) := by decide +kernel
theorem dX9_timesBig_95 : decode cX9_timesBig 95 = .ok (.lload 12, 2) := by decide +kernel
theorem dX9_timesBig_97 : decode cX9_timesBig 97 = .ok (.ldc2_w 350, 3) := by decide +kernel
theorem dX9_timesBig_100 : decode cX9_timesBig 100 = .ok (.lrem, 1) := by decide +kernel
theorem dX9_timesBig_101 : decode cX9_timesBig 101 = .ok (.l2i, 1) := by decide +kernel
theorem dX9_timesBig_102 : decode cX9_timesBig 102 = .ok (.iastore, 1) := by decide +kernel
theorem dX9_timesBig_103 : decode cX9_timesBig 103 = .ok (.lload 12, 2) := by decide +kernel
theorem dX9_timesBig_105 : decode cX9_timesBig 105 = .ok (.ldc2_w 350, 3) := by decide +kernel
theorem dX9_timesBig_108 : decode cX9_timesBig 108 = .ok (.ldiv, 1) := by decide +kernel
theorem dX9_timesBig_109 : decode cX9_timesBig 109 = .ok (.lstore 9, 2) := by decide +kernel
theorem dX9_timesBig_111 : decode cX9_timesBig 111 = .ok (.iinc 11 1, 3) := by decide +kernel
theorem dX9_timesBig_114 : decode cX9_timesBig 114 = .ok (.goto (-63), 3) := by decide +kernel
theorem dX9_timesBig_117 : decode cX9_timesBig 117 = .ok (.lload 4, 2) := by decide +kernel
theorem dX9_timesBig_119 : decode cX9_timesBig 119 = .ok (.ldc2_w 350, 3) := by decide +kernel
theorem dX9_timesBig_122 : decode cX9_timesBig 122 = .ok (.ldiv, 1) := by decide +kernel
theorem dX9_timesBig_123 : decode cX9_timesBig 123 = .ok (.lstore 4, 2) := by decide +kernel
theorem dX9_timesBig_125 : decode cX9_timesBig 125 = .ok (.iinc 6 1, 3) := by decide +kernel
theorem dX9_timesBig_128 : decode cX9_timesBig 128 = .ok (.goto (-98), 3) := by decide +kernel
theorem dX9_timesBig_131 : decode cX9_timesBig 131 = .ok (.iconst 0, 1) := by decide +kernel
theorem dX9_timesBig_132 : decode cX9_timesBig 132 = .ok (.istore 7, 2) := by decide +kernel
theorem dX9_timesBig_134 : decode cX9_timesBig 134 = .ok (.iload 7, 2) := by decide +kernel
theorem dX9_timesBig_136 : decode cX9_timesBig 136 = .ok (.bipush 60, 2) := by decide +kernel
theorem dX9_timesBig_138 : decode cX9_timesBig 138 = .ok (.if_icmp .ge 20, 3) := by decide +kernel
theorem dX9_timesBig_141 : decode cX9_timesBig 141 = .ok (.aload_n 1, 1) := by decide +kernel
theorem dX9_timesBig_142 : decode cX9_timesBig 142 = .ok (.iload 7, 2) := by decide +kernel
theorem dX9_timesBig_144 : decode cX9_timesBig 144 = .ok (.aload_n 0, 1) := by decide +kernel
theorem dX9_timesBig_145 : decode cX9_timesBig 145 = .ok (.getfield 60, 3) := by decide +kernel
theorem dX9_timesBig_148 : decode cX9_timesBig 148 = .ok (.iload 7, 2) := by decide +kernel
theorem dX9_timesBig_150 : decode cX9_timesBig 150 = .ok (.iaload, 1) := by decide +kernel
theorem dX9_timesBig_151 : decode cX9_timesBig 151 = .ok (.iastore, 1) := by decide +kernel
theorem dX9_timesBig_152 : decode cX9_timesBig 152 = .ok (.iinc 7 1, 3) := by decide +kernel
theorem dX9_timesBig_155 : decode cX9_timesBig 155 = .ok (.goto (-21), 3) := by decide +kernel
theorem dX9_timesBig_158 : decode cX9_timesBig 158 = .ok (.return_, 1) := by decide +kernel
theorem dX9_compareBig_0 : decode cX9_compareBig 0 = .ok (.bipush 59, 2) := by decide +kernel
theorem dX9_compareBig_2 : decode cX9_compareBig 2 = .ok (.istore_n 2, 1) := by decide +kernel
theorem dX9_compareBig_3 : decode cX9_compareBig 3 = .ok (.iload_n 2, 1) := by decide +kernel
theorem dX9_compareBig_4 : decode cX9_compareBig 4 = .ok (.ifCond .lt 33, 3) := by decide +kernel
theorem dX9_compareBig_7 : decode cX9_compareBig 7 = .ok (.aload_n 0, 1) := by decide +kernel
theorem dX9_compareBig_8 : decode cX9_compareBig 8 = .ok (.iload_n 2, 1) := by decide +kernel
theorem dX9_compareBig_9 : decode cX9_compareBig 9 = .ok (.iaload, 1) := by decide +kernel
theorem dX9_compareBig_10 : decode cX9_compareBig 10 = .ok (.aload_n 1, 1) := by decide +kernel
theorem dX9_compareBig_11 : decode cX9_compareBig 11 = .ok (.iload_n 2, 1) := by decide +kernel
theorem dX9_compareBig_12 : decode cX9_compareBig 12 = .ok (.iaload, 1) := by decide +kernel
theorem dX9_compareBig_13 : decode cX9_compareBig 13 = .ok (.if_icmp .eq 18, 3) := by decide +kernel
theorem dX9_compareBig_16 : decode cX9_compareBig 16 = .ok (.aload_n 0, 1) := by decide +kernel
theorem dX9_compareBig_17 : decode cX9_compareBig 17 = .ok (.iload_n 2, 1) := by decide +kernel
theorem dX9_compareBig_18 : decode cX9_compareBig 18 = .ok (.iaload, 1) := by decide +kernel
theorem dX9_compareBig_19 : decode cX9_compareBig 19 = .ok (.aload_n 1, 1) := by decide +kernel
theorem dX9_compareBig_20 : decode cX9_compareBig 20 = .ok (.iload_n 2, 1) := by decide +kernel
theorem dX9_compareBig_21 : decode cX9_compareBig 21 = .ok (.iaload, 1) := by decide +kernel
theorem dX9_compareBig_22 : decode cX9_compareBig 22 = .ok (.if_icmp .ge 7, 3) := by decide +kernel
theorem dX9_compareBig_25 : decode cX9_compareBig 25 = .ok (.iconst (-1), 1) := by decide +kernel
theorem dX9_compareBig_26 : decode cX9_compareBig 26 = .ok (.goto 4, 3) := by decide +kernel
theorem dX9_compareBig_29 : decode cX9_compareBig 29 = .ok (.iconst 1, 1) := by decide +kernel
theorem dX9_compareBig_30 : decode cX9_compareBig 30 = .ok (.ireturn, 1) := by decide +kernel
theorem dX9_compareBig_31 : decode cX9_compareBig 31 = .ok (.iinc 2 (-1), 3) := by decide +kernel
theorem dX9_compareBig_34 : decode cX9_compareBig 34 = .ok (.goto (-31), 3) := by decide +kernel
theorem dX9_compareBig_37 : decode cX9_compareBig 37 = .ok (.iconst 0, 1) := by decide +kernel
theorem dX9_compareBig_38 : decode cX9_compareBig 38 = .ok (.ireturn, 1) := by decide +kernel
theorem dX9_compare_0 : decode cX9_compare 0 = .ok (.aload_n 0, 1) := by decide +kernel
theorem dX9_compare_1 : decode cX9_compare 1 = .ok (.invokevirtual 150, 3) := by decide +kernel
theorem dX9_compare_4 : decode cX9_compare 4 = .ok (.aload_n 0, 1) := by decide +kernel
theorem dX9_compare_5 : decode cX9_compare 5 = .ok (.iload_n 1, 1) := by decide +kernel
theorem dX9_compare_6 : decode cX9_compare 6 = .ok (.invokevirtual 320, 3) := by decide +kernel
theorem dX9_compare_9 : decode cX9_compare 9 = .ok (.ifCond .eq 11, 3) := by decide +kernel
theorem dX9_compare_12 : decode cX9_compare 12 = .ok (.aload_n 0, 1) := by decide +kernel
theorem dX9_compare_13 : decode cX9_compare 13 = .ok (.iload_n 2, 1) := by decide +kernel
theorem dX9_compare_14 : decode cX9_compare 14 = .ok (.invokevirtual 320, 3) := by decide +kernel
theorem dX9_compare_17 : decode cX9_compare 17 = .ok (.ifCond .ne 9, 3) := by decide +kernel
theorem dX9_compare_20 : decode cX9_compare 20 = .ok (.aload_n 0, 1) := by decide +kernel
theorem dX9_compare_21 : decode cX9_compare 21 = .ok (.iconst 1, 1) := by decide +kernel
theorem dX9_compare_22 : decode cX9_compare 22 = .ok (.invokevirtual 153, 3) := by decide +kernel
theorem dX9_compare_25 : decode cX9_compare 25 = .ok (.ireturn, 1) := by decide +kernel
theorem dX9_compare_26 : decode cX9_compare 26 = .ok (.aload_n 0, 1) := by decide +kernel
theorem dX9_compare_27 : decode cX9_compare 27 = .ok (.iload_n 1, 1) := by decide +kernel
theorem dX9_compare_28 : decode cX9_compare 28 = .ok (.iload_n 3, 1) := by decide +kernel
theorem dX9_compare_29 : decode cX9_compare 29 = .ok (.iload 4, 2) := by decide +kernel
theorem dX9_compare_31 : decode cX9_compare 31 = .ok (.iconst 0, 1) := by decide +kernel
theorem dX9_compare_32 : decode cX9_compare 32 = .ok (.bipush 9, 2) := by decide +kernel
theorem dX9_compare_34 : decode cX9_compare 34 = .ok (.invokestatic 138, 3) := by decide +kernel
theorem dX9_compare_37 : decode cX9_compare 37 = .ok (.invokevirtual 327, 3) := by decide +kernel
theorem dX9_compare_40 : decode cX9_compare 40 = .ok (.istore 5, 2) := by decide +kernel
theorem dX9_compare_42 : decode cX9_compare 42 = .ok (.iload 5, 2) := by decide +kernel
theorem dX9_compare_44 : decode cX9_compare 44 = .ok (.ifCond .eq 10, 3) := by decide +kernel
theorem dX9_compare_47 : decode cX9_compare 47 = .ok (.aload_n 0, 1) := by decide +kernel
theorem dX9_compare_48 : decode cX9_compare 48 = .ok (.iload 5, 2) := by decide +kernel
theorem dX9_compare_50 : decode cX9_compare 50 = .ok (.invokevirtual 153, 3) := by decide +kernel
theorem dX9_compare_53 : decode cX9_compare 53 = .ok (.ireturn, 1) := by decide +kernel
theorem dX9_compare_54 : decode cX9_compare 54 = .ok (.aload_n 0, 1) := by decide +kernel
theorem dX9_compare_55 : decode cX9_compare 55 = .ok (.iload 4, 2) := by decide +kernel
theorem dX9_compare_57 : decode cX9_compare 57 = .ok (.invokevirtual 331, 3) := by decide +kernel
theorem dX9_compare_60 : decode cX9_compare 60 = .ok (.lstore 6, 2) := by decide +kernel
theorem dX9_compare_62 : decode cX9_compare 62 = .ok (.aload_n 0, 1) := by decide +kernel
theorem dX9_compare_63 : decode cX9_compare 63 = .ok (.getfield 255, 3) := by decide +kernel
theorem dX9_compare_66 : decode cX9_compare 66 = .ok (.lstore 8, 2) := by decide +kernel
theorem dX9_compare_68 : decode cX9_compare 68 = .ok (.aload_n 0, 1) := by decide +kernel
theorem dX9_compare_69 : decode cX9_compare 69 = .ok (.iload_n 2, 1) := by decide +kernel
theorem dX9_compare_70 : decode cX9_compare 70 = .ok (.iload_n 3, 1) := by decide +kernel
theorem dX9_compare_71 : decode cX9_compare 71 = .ok (.invokevirtual 323, 3) := by decide +kernel
theorem dX9_compare_74 : decode cX9_compare 74 = .ok (.ifCond .ne 9, 3) := by decide +kernel
theorem dX9_compare_77 : decode cX9_compare 77 = .ok (.aload_n 0, 1) := by decide +kernel
theorem dX9_compare_78 : decode cX9_compare 78 = .ok (.iconst 3, 1) := by decide +kernel
theorem dX9_compare_79 : decode cX9_compare 79 = .ok (.invokevirtual 153, 3) := by decide +kernel
theorem dX9_compare_82 : decode cX9_compare 82 = .ok (.ireturn, 1) := by decide +kernel
theorem dX9_compare_83 : decode cX9_compare 83 = .ok (.aload_n 0, 1) := by decide +kernel
theorem dX9_compare_84 : decode cX9_compare 84 = .ok (.getfield 54, 3) := by decide +kernel
theorem dX9_compare_87 : decode cX9_compare 87 = .ok (.invokestatic 352, 3) := by decide +kernel
theorem dX9_compare_90 : decode cX9_compare 90 = .ok (.aload_n 0, 1) := by decide +kernel
theorem dX9_compare_91 : decode cX9_compare 91 = .ok (.aload_n 0, 1) := by decide +kernel
theorem dX9_compare_92 : decode cX9_compare 92 = .ok (.getfield 54, 3) := by decide +kernel
theorem dX9_compare_95 : decode cX9_compare 95 = .ok (.lload 6, 2) := by decide +kernel
theorem dX9_compare_97 : decode cX9_compare 97 = .ok (.invokevirtual 356, 3) := by decide +kernel
theorem dX9_compare_100 : decode cX9_compare 100 = .ok (.aload_n 0, 1) := by decide +kernel
theorem dX9_compare_101 : decode cX9_compare 101 = .ok (.aload_n 0, 1) := by decide +kernel
theorem dX9_compare_102 : decode cX9_compare 102 = .ok (.getfield 54, 3) := by decide +kernel
theorem dX9_compare_105 : decode cX9_compare 105 = .ok (.aload_n 0, 1) := by decide +kernel
theorem dX9_compare_106 : decode cX9_compare 106 = .ok (.getfield 255, 3) := by decide +kernel
theorem dX9_compare_109 : decode cX9_compare 109 = .ok (.invokevirtual 356, 3) := by decide +kernel
theorem dX9_compare_112 : decode cX9_compare 112 = .ok (.aload_n 0, 1) := by decide +kernel
theorem dX9_compare_113 : decode cX9_compare 113 = .ok (.getfield 57, 3) := by decide +kernel
theorem dX9_compare_116 : decode cX9_compare 116 = .ok (.invokestatic 352, 3) := by decide +kernel
theorem dX9_compare_119 : decode cX9_compare 119 = .ok (.aload_n 0, 1) := by decide +kernel
theorem dX9_compare_120 : decode cX9_compare 120 = .ok (.aload_n 0, 1) := by decide +kernel
theorem dX9_compare_121 : decode cX9_compare 121 = .ok (.getfield 57, 3) := by decide +kernel
theorem dX9_compare_124 : decode cX9_compare 124 = .ok (.aload_n 0, 1) := by decide +kernel
theorem dX9_compare_125 : decode cX9_compare 125 = .ok (.iload 4, 2) := by decide +kernel
theorem dX9_compare_127 : decode cX9_compare 127 = .ok (.invokevirtual 331, 3) := by decide +kernel
theorem dX9_compare_130 : decode cX9_compare 130 = .ok (.invokevirtual 356, 3) := by decide +kernel
theorem dX9_compare_133 : decode cX9_compare 133 = .ok (.aload_n 0, 1) := by decide +kernel
theorem dX9_compare_134 : decode cX9_compare 134 = .ok (.aload_n 0, 1) := by decide +kernel
theorem dX9_compare_135 : decode cX9_compare 135 = .ok (.getfield 57, 3) := by decide +kernel
theorem dX9_compare_138 : decode cX9_compare 138 = .ok (.lload 8, 2) := by decide +kernel
theorem dX9_compare_140 : decode cX9_compare 140 = .ok (.invokevirtual 356, 3) := by decide +kernel
theorem dX9_compare_143 : decode cX9_compare 143 = .ok (.iconst 2, 1) := by decide +kernel
theorem dX9_compare_144 : decode cX9_compare 144 = .ok (.aload_n 0, 1) := by decide +kernel
theorem dX9_compare_145 : decode cX9_compare 145 = .ok (.getfield 54, 3) := by decide +kernel
theorem dX9_compare_148 : decode cX9_compare 148 = .ok (.aload_n 0, 1) := by decide +kernel
theorem dX9_compare_149 : decode cX9_compare 149 = .ok (.getfield 57, 3) := by decide +kernel
theorem dX9_compare_152 : decode cX9_compare 152 = .ok (.invokestatic 360, 3) := by decide +kernel
theorem dX9_compare_155 : decode cX9_compare 155 = .ok (.imul, 1) := by decide +kernel
theorem dX9_compare_156 : decode cX9_compare 156 = .ok (.ireturn, 1) := by decide +kernel
theorem dX9_boundWhy_0 : decode cX9_boundWhy 0 = .ok (.aload_n 0, 1) := by decide +kernel
theorem dX9_boundWhy_1 : decode cX9_boundWhy 1 = .ok (.getfield 159, 3) := by decide +kernel
theorem dX9_boundWhy_4 : decode cX9_boundWhy 4 = .ok (.ifCond .ne 7, 3) := by decide +kernel
theorem dX9_boundWhy_7 : decode cX9_boundWhy 7 = .ok (.iconst 1, 1) := by decide +kernel
theorem dX9_boundWhy_8 : decode cX9_boundWhy 8 = .ok (.goto 32, 3) := by decide +kernel
theorem dX9_boundWhy_11 : decode cX9_boundWhy 11 = .ok (.iload_n 1, 1) := by decide +kernel
theorem dX9_boundWhy_12 : decode cX9_boundWhy 12 = .ok (.iconst 0, 1) := by decide +kernel
theorem dX9_boundWhy_13 : decode cX9_boundWhy 13 = .ok (.aload_n 0, 1) := by decide +kernel
theorem dX9_boundWhy_14 : decode cX9_boundWhy 14 = .ok (.getfield 20, 3) := by decide +kernel
theorem dX9_boundWhy_17 : decode cX9_boundWhy 17 = .ok (.iconst 1, 1) := by decide +kernel
theorem dX9_boundWhy_18 : decode cX9_boundWhy 18 = .ok (.iaload, 1) := by decide +kernel
theorem dX9_boundWhy_19 : decode cX9_boundWhy 19 = .ok (.invokestatic 138, 3) := by decide +kernel
theorem dX9_boundWhy_22 : decode cX9_boundWhy 22 = .ok (.ifCond .eq 17, 3) := by decide +kernel
theorem dX9_boundWhy_25 : decode cX9_boundWhy 25 = .ok (.iload_n 2, 1) := by decide +kernel
theorem dX9_boundWhy_26 : decode cX9_boundWhy 26 = .ok (.iconst 1, 1) := by decide +kernel
theorem dX9_boundWhy_27 : decode cX9_boundWhy 27 = .ok (.bipush 9, 2) := by decide +kernel
theorem dX9_boundWhy_29 : decode cX9_boundWhy 29 = .ok (.invokestatic 138, 3) := by decide +kernel
theorem dX9_boundWhy_32 : decode cX9_boundWhy 32 = .ok (.ifCond .eq 7, 3) := by decide +kernel
theorem dX9_boundWhy_35 : decode cX9_boundWhy 35 = .ok (.iconst 0, 1) := by decide +kernel
theorem dX9_boundWhy_36 : decode cX9_boundWhy 36 = .ok (.goto 4, 3) := by decide +kernel
theorem dX9_boundWhy_39 : decode cX9_boundWhy 39 = .ok (.iconst 2, 1) := by decide +kernel
theorem dX9_boundWhy_40 : decode cX9_boundWhy 40 = .ok (.ireturn, 1) := by decide +kernel
theorem dX9_never_0 : decode cX9_never 0 = .ok (.aload_n 0, 1) := by decide +kernel
theorem dX9_never_1 : decode cX9_never 1 = .ok (.invokevirtual 150, 3) := by decide +kernel
theorem dX9_never_4 : decode cX9_never 4 = .ok (.aload_n 0, 1) := by decide +kernel
theorem dX9_never_5 : decode cX9_never 5 = .ok (.iload_n 1, 1) := by decide +kernel
theorem dX9_never_6 : decode cX9_never 6 = .ok (.iload_n 2, 1) := by decide +kernel
theorem dX9_never_7 : decode cX9_never 7 = .ok (.invokevirtual 364, 3) := by decide +kernel
theorem dX9_never_10 : decode cX9_never 10 = .ok (.istore_n 3, 1) := by decide +kernel
theorem dX9_never_11 : decode cX9_never 11 = .ok (.iload_n 3, 1) := by decide +kernel
theorem dX9_never_12 : decode cX9_never 12 = .ok (.ifCond .eq 9, 3) := by decide +kernel
theorem dX9_never_15 : decode cX9_never 15 = .ok (.aload_n 0, 1) := by decide +kernel
theorem dX9_never_16 : decode cX9_never 16 = .ok (.iload_n 3, 1) := by decide +kernel
theorem dX9_never_17 : decode cX9_never 17 = .ok (.invokevirtual 153, 3) := by decide +kernel
theorem dX9_never_20 : decode cX9_never 20 = .ok (.ireturn, 1) := by decide +kernel
theorem dX9_never_21 : decode cX9_never 21 = .ok (.iconst 1, 1) := by decide +kernel
theorem dX9_never_22 : decode cX9_never 22 = .ok (.istore 4, 2) := by decide +kernel
theorem dX9_never_24 : decode cX9_never 24 = .ok (.iload 4, 2) := by decide +kernel
theorem dX9_never_26 : decode cX9_never 26 = .ok (.iconst 3, 1) := by decide +kernel
theorem dX9_never_27 : decode cX9_never 27 = .ok (.if_icmp .gt 75, 3) := by decide +kernel
theorem dX9_never_30 : decode cX9_never 30 = .ok (.aload_n 0, 1) := by decide +kernel
theorem dX9_never_31 : decode cX9_never 31 = .ok (.iconst 1, 1) := by decide +kernel
theorem dX9_never_32 : decode cX9_never 32 = .ok (.bipush (-2), 2) := by decide +kernel
theorem dX9_never_34 : decode cX9_never 34 = .ok (.iload 4, 2) := by decide +kernel
theorem dX9_never_36 : decode cX9_never 36 = .ok (.iload_n 1, 1) := by decide +kernel
theorem dX9_never_37 : decode cX9_never 37 = .ok (.iconst 0, 1) := by decide +kernel
theorem dX9_never_38 : decode cX9_never 38 = .ok (.invokevirtual 309, 3) := by decide +kernel
theorem dX9_never_41 : decode cX9_never 41 = .ok (.istore 5, 2) := by decide +kernel
theorem dX9_never_43 : decode cX9_never 43 = .ok (.iconst 0, 1) := by decide +kernel
theorem dX9_never_44 : decode cX9_never 44 = .ok (.istore 6, 2) := by decide +kernel
theorem dX9_never_46 : decode cX9_never 46 = .ok (.iload 6, 2) := by decide +kernel
theorem dX9_never_48 : decode cX9_never 48 = .ok (.aload_n 0, 1) := by decide +kernel
theorem dX9_never_49 : decode cX9_never 49 = .ok (.getfield 252, 3) := by decide +kernel
theorem dX9_never_52 : decode cX9_never 52 = .ok (.if_icmp .ge 36, 3) := by decide +kernel
theorem dX9_never_55 : decode cX9_never 55 = .ok (.iload 5, 2) := by decide +kernel
theorem dX9_never_57 : decode cX9_never 57 = .ok (.ifCond .eq 22, 3) := by decide +kernel
theorem dX9_never_60 : decode cX9_never 60 = .ok (.aload_n 0, 1) := by decide +kernel
theorem dX9_never_61 : decode cX9_never 61 = .ok (.aload_n 0, 1) := by decide +kernel
theorem dX9_never_62 : decode cX9_never 62 = .ok (.getfield 38, 3) := by decide +kernel
theorem dX9_never_65 : decode cX9_never 65 = .ok (.iload 6, 2) := by decide +kernel
theorem dX9_never_67 : decode cX9_never 67 = .ok (.iaload, 1) := by decide +kernel
theorem dX9_never_68 : decode cX9_never 68 = .ok (.invokevirtual 313, 3) := by decide +kernel
theorem dX9_never_71 : decode cX9_never 71 = .ok (.iload_n 2, 1) := by decide +kernel
theorem dX9_never_72 : decode cX9_never 72 = .ok (.if_icmp .ge 7, 3) := by decide +kernel
theorem dX9_never_75 : decode cX9_never 75 = .ok (.iconst 1, 1) := by decide +kernel
theorem dX9_never_76 : decode cX9_never 76 = .ok (.goto 4, 3) := by decide +kernel
theorem dX9_never_79 : decode cX9_never 79 = .ok (.iconst 0, 1) := by decide +kernel
theorem dX9_never_80 : decode cX9_never 80 = .ok (.istore 5, 2) := by decide +kernel
theorem dX9_never_82 : decode cX9_never 82 = .ok (.iinc 6 1, 3) := by decide +kernel
theorem dX9_never_85 : decode cX9_never 85 = .ok (.goto (-39), 3) := by decide +kernel
theorem dX9_never_88 : decode cX9_never 88 = .ok (.iload 5, 2) := by decide +kernel
theorem dX9_never_90 : decode cX9_never 90 = .ok (.ifCond .eq 6, 3) := by decide +kernel
theorem dX9_never_93 : decode cX9_never 93 = .ok (.iload 4, 2) := by decide +kernel
theorem dX9_never_95 : decode cX9_never 95 = .ok (.ireturn, 1) := by decide +kernel
theorem dX9_never_96 : decode cX9_never 96 = .ok (.iinc 4 1, 3) := by decide +kernel
theorem dX9_never_99 : decode cX9_never 99 = .ok (.goto (-75), 3) := by decide +kernel
theorem dX9_never_102 : decode cX9_never 102 = .ok (.bipush (-2), 2) := by decide +kernel
theorem dX9_never_104 : decode cX9_never 104 = .ok (.ireturn, 1) := by decide +kernel
theorem dX9_findBest_0 : decode cX9_findBest 0 = .ok (.iconst (-1), 1) := by decide +kernel
theorem dX9_findBest_1 : decode cX9_findBest 1 = .ok (.istore 4, 2) := by decide +kernel
theorem dX9_findBest_3 : decode cX9_findBest 3 = .ok (.iconst 0, 1) := by decide +kernel
theorem dX9_findBest_4 : decode cX9_findBest 4 = .ok (.istore 5, 2) := by decide +kernel
theorem dX9_findBest_6 : decode cX9_findBest 6 = .ok (.iload 5, 2) := by decide +kernel
theorem dX9_findBest_8 : decode cX9_findBest 8 = .ok (.bipush 8, 2) := by decide +kernel
theorem dX9_findBest_10 : decode cX9_findBest 10 = .ok (.if_icmp .gt 59, 3) := by decide +kernel
theorem dX9_findBest_13 : decode cX9_findBest 13 = .ok (.aload_n 0, 1) := by decide +kernel
theorem dX9_findBest_14 : decode cX9_findBest 14 = .ok (.iconst 2, 1) := by decide +kernel
theorem dX9_findBest_15 : decode cX9_findBest 15 = .ok (.iload 5, 2) := by decide +kernel
theorem dX9_findBest_17 : decode cX9_findBest 17 = .ok (.iload_n 1, 1) := by decide +kernel
theorem dX9_findBest_18 : decode cX9_findBest 18 = .ok (.iload_n 2, 1) := by decide +kernel
theorem dX9_findBest_19 : decode cX9_findBest 19 = .ok (.iconst 1, 1) := by decide +kernel
theorem dX9_findBest_20 : decode cX9_findBest 20 = .ok (.invokevirtual 309, 3) := by decide +kernel
theorem dX9_findBest_23 : decode cX9_findBest 23 = .ok (.ifCond .ne 5, 3) := by decide +kernel
theorem dX9_findBest_26 : decode cX9_findBest 26 = .ok (.iconst (-1), 1) := by decide +kernel
theorem dX9_findBest_27 : decode cX9_findBest 27 = .ok (.ireturn, 1) := by decide +kernel
theorem dX9_findBest_28 : decode cX9_findBest 28 = .ok (.aload_n 0, 1) := by decide +kernel
theorem dX9_findBest_29 : decode cX9_findBest 29 = .ok (.iload_n 3, 1) := by decide +kernel
theorem dX9_findBest_30 : decode cX9_findBest 30 = .ok (.invokevirtual 331, 3) := by decide +kernel
theorem dX9_findBest_33 : decode cX9_findBest 33 = .ok (.lstore 6, 2) := by decide +kernel
theorem dX9_findBest_35 : decode cX9_findBest 35 = .ok (.iload 4, 2) := by decide +kernel
theorem dX9_findBest_37 : decode cX9_findBest 37 = .ok (.ifCond .lt 16, 3) := by decide +kernel
theorem dX9_findBest_40 : decode cX9_findBest 40 = .ok (.lload 6, 2) := by decide +kernel
theorem dX9_findBest_42 : decode cX9_findBest 42 = .ok (.aload_n 0, 1) := by decide +kernel
theorem dX9_findBest_43 : decode cX9_findBest 43 = .ok (.getfield 367, 3) := by decide +kernel
theorem dX9_findBest_46 : decode cX9_findBest 46 = .ok (.lcmp, 1) := by decide +kernel
theorem dX9_findBest_47 : decode cX9_findBest 47 = .ok (.ifCond .lt 6, 3) := by decide +kernel
theorem dX9_findBest_50 : decode cX9_findBest 50 = .ok (.goto 13, 3) := by decide +kernel
theorem dX9_findBest_53 : decode cX9_findBest 53 = .ok (.iload 5, 2) := by decide +kernel
theorem dX9_findBest_55 : decode cX9_findBest 55 = .ok (.istore 4, 2) := by decide +kernel
theorem dX9_findBest_57 : decode cX9_findBest 57 = .ok (.aload_n 0, 1) := by decide +kernel
theorem dX9_findBest_58 : decode cX9_findBest 58 = .ok (.lload 6, 2) := by decide +kernel
theorem dX9_findBest_60 : decode cX9_findBest 60 = .ok (.putfield 367, 3) := by decide +kernel
theorem dX9_findBest_63 : decode cX9_findBest 63 = .ok (.iinc 5 1, 3) := by decide +kernel
theorem dX9_findBest_66 : decode cX9_findBest 66 = .ok (.goto (-60), 3) := by decide +kernel
theorem dX9_findBest_69 : decode cX9_findBest 69 = .ok (.iload 4, 2) := by decide +kernel
theorem dX9_findBest_71 : decode cX9_findBest 71 = .ok (.ireturn, 1) := by decide +kernel
theorem dX9_bestWhy_0 : decode cX9_bestWhy 0 = .ok (.aload_n 0, 1) := by decide +kernel
theorem dX9_bestWhy_1 : decode cX9_bestWhy 1 = .ok (.getfield 159, 3) := by decide +kernel
theorem dX9_bestWhy_4 : decode cX9_bestWhy 4 = .ok (.ifCond .ne 5, 3) := by decide +kernel
theorem dX9_bestWhy_7 : decode cX9_bestWhy 7 = .ok (.iconst 1, 1) := by decide +kernel
theorem dX9_bestWhy_8 : decode cX9_bestWhy 8 = .ok (.ireturn, 1) := by decide +kernel
theorem dX9_bestWhy_9 : decode cX9_bestWhy 9 = .ok (.iload_n 2, 1) := by decide +kernel
theorem dX9_bestWhy_10 : decode cX9_bestWhy 10 = .ok (.iconst 0, 1) := by decide +kernel
theorem dX9_bestWhy_11 : decode cX9_bestWhy 11 = .ok (.aload_n 0, 1) := by decide +kernel
theorem dX9_bestWhy_12 : decode cX9_bestWhy 12 = .ok (.getfield 20, 3) := by decide +kernel
theorem dX9_bestWhy_15 : decode cX9_bestWhy 15 = .ok (.iconst 1, 1) := by decide +kernel
theorem dX9_bestWhy_16 : decode cX9_bestWhy 16 = .ok (.iaload, 1) := by decide +kernel
theorem dX9_bestWhy_17 : decode cX9_bestWhy 17 = .ok (.invokestatic 138, 3) := by decide +kernel
theorem dX9_bestWhy_20 : decode cX9_bestWhy 20 = .ok (.ifCond .eq 26, 3) := by decide +kernel
theorem dX9_bestWhy_23 : decode cX9_bestWhy 23 = .ok (.iload_n 3, 1) := by decide +kernel
theorem dX9_bestWhy_24 : decode cX9_bestWhy 24 = .ok (.iconst 0, 1) := by decide +kernel
theorem dX9_bestWhy_25 : decode cX9_bestWhy 25 = .ok (.bipush 9, 2) := by decide +kernel
theorem dX9_bestWhy_27 : decode cX9_bestWhy 27 = .ok (.invokestatic 138, 3) := by decide +kernel
theorem dX9_bestWhy_30 : decode cX9_bestWhy 30 = .ok (.ifCond .eq 16, 3) := by decide +kernel
theorem dX9_bestWhy_33 : decode cX9_bestWhy 33 = .ok (.iload_n 1, 1) := by decide +kernel
theorem dX9_bestWhy_34 : decode cX9_bestWhy 34 = .ok (.iconst 1, 1) := by decide +kernel
theorem dX9_bestWhy_35 : decode cX9_bestWhy 35 = .ok (.iconst 3, 1) := by decide +kernel
theorem dX9_bestWhy_36 : decode cX9_bestWhy 36 = .ok (.invokestatic 138, 3) := by decide +kernel
theorem dX9_bestWhy_39 : decode cX9_bestWhy 39 = .ok (.ifCond .eq 7, 3) := by decide +kernel
theorem dX9_bestWhy_42 : decode cX9_bestWhy 42 = .ok (.iconst 0, 1) := by decide +kernel
theorem dX9_bestWhy_43 : decode cX9_bestWhy 43 = .ok (.goto 4, 3) := by decide +kernel
theorem dX9_bestWhy_46 : decode cX9_bestWhy 46 = .ok (.iconst 2, 1) := by decide +kernel
theorem dX9_bestWhy_47 : decode cX9_bestWhy 47 = .ok (.ireturn, 1) := by decide +kernel
theorem dX9_best_0 : decode cX9_best 0 = .ok (.aload_n 0, 1) := by decide +kernel
theorem dX9_best_1 : decode cX9_best 1 = .ok (.invokevirtual 150, 3) := by decide +kernel
theorem dX9_best_4 : decode cX9_best 4 = .ok (.aload_n 0, 1) := by decide +kernel
theorem dX9_best_5 : decode cX9_best 5 = .ok (.iload_n 1, 1) := by decide +kernel
theorem dX9_best_6 : decode cX9_best 6 = .ok (.iload_n 2, 1) := by decide +kernel
theorem dX9_best_7 : decode cX9_best 7 = .ok (.iload_n 3, 1) := by decide +kernel
theorem dX9_best_8 : decode cX9_best 8 = .ok (.invokevirtual 370, 3) := by decide +kernel
theorem dX9_best_11 : decode cX9_best 11 = .ok (.istore 4, 2) := by decide +kernel
theorem dX9_best_13 : decode cX9_best 13 = .ok (.iload 4, 2) := by decide +kernel
theorem dX9_best_15 : decode cX9_best 15 = .ok (.ifCond .eq 10, 3) := by decide +kernel
theorem dX9_best_18 : decode cX9_best 18 = .ok (.aload_n 0, 1) := by decide +kernel
theorem dX9_best_19 : decode cX9_best 19 = .ok (.iload 4, 2) := by decide +kernel
theorem dX9_best_21 : decode cX9_best 21 = .ok (.invokevirtual 153, 3) := by decide +kernel
theorem dX9_best_24 : decode cX9_best 24 = .ok (.ireturn, 1) := by decide +kernel
theorem dX9_best_25 : decode cX9_best 25 = .ok (.aload_n 0, 1) := by decide +kernel
theorem dX9_best_26 : decode cX9_best 26 = .ok (.iload_n 1, 1) := by decide +kernel
theorem dX9_best_27 : decode cX9_best 27 = .ok (.iload_n 2, 1) := by decide +kernel
theorem dX9_best_28 : decode cX9_best 28 = .ok (.iload_n 3, 1) := by decide +kernel
theorem dX9_best_29 : decode cX9_best 29 = .ok (.invokevirtual 373, 3) := by decide +kernel
theorem dX9_best_32 : decode cX9_best 32 = .ok (.istore 5, 2) := by decide +kernel
theorem dX9_best_34 : decode cX9_best 34 = .ok (.iload 5, 2) := by decide +kernel
theorem dX9_best_36 : decode cX9_best 36 = .ok (.ifCond .ge 11, 3) := by decide +kernel
theorem dX9_best_39 : decode cX9_best 39 = .ok (.aload_n 0, 1) := by decide +kernel
theorem dX9_best_40 : decode cX9_best 40 = .ok (.iconst 3, 1) := by decide +kernel
theorem dX9_best_41 : decode cX9_best 41 = .ok (.invokevirtual 153, 3) := by decide +kernel
theorem dX9_best_44 : decode cX9_best 44 = .ok (.goto 5, 3) := by decide +kernel
theorem dX9_best_47 : decode cX9_best 47 = .ok (.iload 5, 2) := by decide +kernel
theorem dX9_best_49 : decode cX9_best 49 = .ok (.ireturn, 1) := by decide +kernel
theorem dX9_bestChance_0 : decode cX9_bestChance 0 = .ok (.aload_n 0, 1) := by decide +kernel
theorem dX9_bestChance_1 : decode cX9_bestChance 1 = .ok (.invokevirtual 150, 3) := by decide +kernel
theorem dX9_bestChance_4 : decode cX9_bestChance 4 = .ok (.aload_n 0, 1) := by decide +kernel
theorem dX9_bestChance_5 : decode cX9_bestChance 5 = .ok (.iload_n 1, 1) := by decide +kernel
theorem dX9_bestChance_6 : decode cX9_bestChance 6 = .ok (.iload_n 2, 1) := by decide +kernel
theorem dX9_bestChance_7 : decode cX9_bestChance 7 = .ok (.iload_n 3, 1) := by decide +kernel
theorem dX9_bestChance_8 : decode cX9_bestChance 8 = .ok (.invokevirtual 370, 3) := by decide +kernel
theorem dX9_bestChance_11 : decode cX9_bestChance 11 = .ok (.istore 5, 2) := by decide +kernel
theorem dX9_bestChance_13 : decode cX9_bestChance 13 = .ok (.iload 5, 2) := by decide +kernel
theorem dX9_bestChance_15 : decode cX9_bestChance 15 = .ok (.ifCond .eq 11, 3) := by decide +kernel
theorem dX9_bestChance_18 : decode cX9_bestChance 18 = .ok (.aload_n 0, 1) := by decide +kernel
theorem dX9_bestChance_19 : decode cX9_bestChance 19 = .ok (.iload 5, 2) := by decide +kernel
theorem dX9_bestChance_21 : decode cX9_bestChance 21 = .ok (.invokevirtual 153, 3) := by decide +kernel
theorem dX9_bestChance_24 : decode cX9_bestChance 24 = .ok (.i2l, 1) := by decide +kernel
theorem dX9_bestChance_25 : decode cX9_bestChance 25 = .ok (.lreturn, 1) := by decide +kernel
theorem dX9_bestChance_26 : decode cX9_bestChance 26 = .ok (.aload_n 0, 1) := by decide +kernel
theorem dX9_bestChance_27 : decode cX9_bestChance 27 = .ok (.iload_n 1, 1) := by decide +kernel
theorem dX9_bestChance_28 : decode cX9_bestChance 28 = .ok (.iload_n 2, 1) := by decide +kernel
theorem dX9_bestChance_29 : decode cX9_bestChance 29 = .ok (.iload_n 3, 1) := by decide +kernel
theorem dX9_bestChance_30 : decode cX9_bestChance 30 = .ok (.invokevirtual 373, 3) := by decide +kernel
theorem dX9_bestChance_33 : decode cX9_bestChance 33 = .ok (.ifCond .ge 12, 3) := by decide +kernel
theorem dX9_bestChance_36 : decode cX9_bestChance 36 = .ok (.aload_n 0, 1) := by decide +kernel
theorem dX9_bestChance_37 : decode cX9_bestChance 37 = .ok (.iconst 3, 1) := by decide +kernel
theorem dX9_bestChance_38 : decode cX9_bestChance 38 = .ok (.invokevirtual 153, 3) := by decide +kernel
theorem dX9_bestChance_41 : decode cX9_bestChance 41 = .ok (.i2l, 1) := by decide +kernel
theorem dX9_bestChance_42 : decode cX9_bestChance 42 = .ok (.goto 16, 3) := by decide +kernel
theorem dX9_bestChance_45 : decode cX9_bestChance 45 = .ok (.aload_n 0, 1) := by decide +kernel
theorem dX9_bestChance_46 : decode cX9_bestChance 46 = .ok (.getfield 367, 3) := by decide +kernel
theorem dX9_bestChance_49 : decode cX9_bestChance 49 = .ok (.aload_n 0, 1) := by decide +kernel
theorem dX9_bestChance_50 : decode cX9_bestChance 50 = .ok (.getfield 255, 3) := by decide +kernel
theorem dX9_bestChance_53 : decode cX9_bestChance 53 = .ok (.iload 4, 2) := by decide +kernel
theorem dX9_bestChance_55 : decode cX9_bestChance 55 = .ok (.invokestatic 334, 3) := by decide +kernel
theorem dX9_bestChance_58 : decode cX9_bestChance 58 = .ok (.lreturn, 1) := by decide +kernel
theorem dX9_likely_0 : decode cX9_likely 0 = .ok (.aload_n 0, 1) := by decide +kernel
theorem dX9_likely_1 : decode cX9_likely 1 = .ok (.invokevirtual 150, 3) := by decide +kernel
theorem dX9_likely_4 : decode cX9_likely 4 = .ok (.aload_n 0, 1) := by decide +kernel
theorem dX9_likely_5 : decode cX9_likely 5 = .ok (.getfield 159, 3) := by decide +kernel
theorem dX9_likely_8 : decode cX9_likely 8 = .ok (.ifCond .ne 9, 3) := by decide +kernel
theorem dX9_likely_11 : decode cX9_likely 11 = .ok (.aload_n 0, 1) := by decide +kernel
theorem dX9_likely_12 : decode cX9_likely 12 = .ok (.iconst 1, 1) := by decide +kernel
theorem dX9_likely_13 : decode cX9_likely 13 = .ok (.invokevirtual 153, 3) := by decide +kernel
theorem dX9_likely_16 : decode cX9_likely 16 = .ok (.ireturn, 1) := by decide +kernel
theorem dX9_likely_17 : decode cX9_likely 17 = .ok (.aload_n 0, 1) := by decide +kernel
theorem dX9_likely_18 : decode cX9_likely 18 = .ok (.getfield 20, 3) := by decide +kernel
theorem dX9_likely_21 : decode cX9_likely 21 = .ok (.bipush 39, 2) := by decide +kernel
theorem dX9_likely_23 : decode cX9_likely 23 = .ok (.iaload, 1) := by decide +kernel
theorem dX9_likely_24 : decode cX9_likely 24 = .ok (.ifCond .ne 10, 3) := by decide +kernel
theorem dX9_likely_27 : decode cX9_likely 27 = .ok (.aload_n 0, 1) := by decide +kernel
theorem dX9_likely_28 : decode cX9_likely 28 = .ok (.bipush 6, 2) := by decide +kernel
theorem dX9_likely_30 : decode cX9_likely 30 = .ok (.invokevirtual 153, 3) := by decide +kernel
theorem dX9_likely_33 : decode cX9_likely 33 = .ok (.ireturn, 1) := by decide +kernel
theorem dX9_likely_34 : decode cX9_likely 34 = .ok (.iconst 0, 1) := by decide +kernel
theorem dX9_likely_35 : decode cX9_likely 35 = .ok (.istore_n 1, 1) := by decide +kernel
theorem dX9_likely_36 : decode cX9_likely 36 = .ok (.iload_n 1, 1) := by decide +kernel
theorem dX9_likely_37 : decode cX9_likely 37 = .ok (.aload_n 0, 1) := by decide +kernel
theorem dX9_likely_38 : decode cX9_likely 38 = .ok (.getfield 20, 3) := by decide +kernel
theorem dX9_likely_41 : decode cX9_likely 41 = .ok (.bipush 17, 2) := by decide +kernel
theorem dX9_likely_43 : decode cX9_likely 43 = .ok (.iaload, 1) := by decide +kernel
theorem dX9_likely_44 : decode cX9_likely 44 = .ok (.if_icmp .ge 74, 3) := by decide +kernel
theorem dX9_likely_47 : decode cX9_likely 47 = .ok (.aload_n 0, 1) := by decide +kernel
theorem dX9_likely_48 : decode cX9_likely 48 = .ok (.iload_n 1, 1) := by decide +kernel
theorem dX9_likely_49 : decode cX9_likely 49 = .ok (.aload_n 0, 1) := by decide +kernel
theorem dX9_likely_50 : decode cX9_likely 50 = .ok (.getfield 20, 3) := by decide +kernel
theorem dX9_likely_53 : decode cX9_likely 53 = .ok (.iconst 1, 1) := by decide +kernel
theorem dX9_likely_54 : decode cX9_likely 54 = .ok (.iaload, 1) := by decide +kernel
theorem dX9_likely_55 : decode cX9_likely 55 = .ok (.invokevirtual 323, 3) := by decide +kernel
theorem dX9_likely_58 : decode cX9_likely 58 = .ok (.ifCond .ne 9, 3) := by decide +kernel
theorem dX9_likely_61 : decode cX9_likely 61 = .ok (.aload_n 0, 1) := by decide +kernel
theorem dX9_likely_62 : decode cX9_likely 62 = .ok (.iconst 3, 1) := by decide +kernel
theorem dX9_likely_63 : decode cX9_likely 63 = .ok (.invokevirtual 153, 3) := by decide +kernel
theorem dX9_likely_66 : decode cX9_likely 66 = .ok (.ireturn, 1) := by decide +kernel
theorem dX9_likely_67 : decode cX9_likely 67 = .ok (.aload_n 0, 1) := by decide +kernel
theorem dX9_likely_68 : decode cX9_likely 68 = .ok (.getfield 66, 3) := by decide +kernel
theorem dX9_likely_71 : decode cX9_likely 71 = .ok (.iload_n 1, 1) := by decide +kernel
theorem dX9_likely_72 : decode cX9_likely 72 = .ok (.aload_n 0, 1) := by decide +kernel
theorem dX9_likely_73 : decode cX9_likely 73 = .ok (.getfield 255, 3) := by decide +kernel
theorem dX9_likely_76 : decode cX9_likely 76 = .ok (.lastore, 1) := by decide +kernel
theorem dX9_likely_77 : decode cX9_likely 77 = .ok (.iconst 0, 1) := by decide +kernel
theorem dX9_likely_78 : decode cX9_likely 78 = .ok (.istore_n 2, 1) := by decide +kernel
theorem dX9_likely_79 : decode cX9_likely 79 = .ok (.iload_n 2, 1) := by decide +kernel
theorem dX9_likely_80 : decode cX9_likely 80 = .ok (.aload_n 0, 1) := by decide +kernel
theorem dX9_likely_81 : decode cX9_likely 81 = .ok (.getfield 20, 3) := by decide +kernel
theorem dX9_likely_84 : decode cX9_likely 84 = .ok (.bipush 39, 2) := by decide +kernel
theorem dX9_likely_86 : decode cX9_likely 86 = .ok (.iaload, 1) := by decide +kernel
theorem dX9_likely_87 : decode cX9_likely 87 = .ok (.if_icmp .ge 25, 3) := by decide +kernel
theorem dX9_likely_90 : decode cX9_likely 90 = .ok (.aload_n 0, 1) := by decide +kernel
theorem dX9_likely_91 : decode cX9_likely 91 = .ok (.getfield 63, 3) := by decide +kernel
theorem dX9_likely_94 : decode cX9_likely 94 = .ok (.bipush 8, 2) := by decide +kernel
theorem dX9_likely_96 : decode cX9_likely 96 = .ok (.iload_n 1, 1) := by decide +kernel
theorem dX9_likely_97 : decode cX9_likely 97 = .ok (.imul, 1) := by decide +kernel
theorem dX9_likely_98 : decode cX9_likely 98 = .ok (.iload_n 2, 1) := by decide +kernel
theorem dX9_likely_99 : decode cX9_likely 99 = .ok (.iadd, 1) := by decide +kernel
theorem dX9_likely_100 : decode cX9_likely 100 = .ok (.aload_n 0, 1) := by decide +kernel
theorem dX9_likely_101 : decode cX9_likely 101 = .ok (.iload_n 2, 1) := by decide +kernel
theorem dX9_likely_102 : decode cX9_likely 102 = .ok (.invokevirtual 347, 3) := by decide +kernel
theorem dX9_likely_105 : decode cX9_likely 105 = .ok (.lastore, 1) := by decide +kernel
theorem dX9_likely_106 : decode cX9_likely 106 = .ok (.iinc 2 1, 3) := by decide +kernel
theorem dX9_likely_109 : decode cX9_likely 109 = .ok (.goto (-30), 3) := by decide +kernel
theorem dX9_likely_112 : decode cX9_likely 112 = .ok (.iinc 1 1, 3) := by decide +kernel
theorem dX9_likely_115 : decode cX9_likely 115 = .ok (.goto (-79), 3) := by decide +kernel
theorem dX9_likely_118 : decode cX9_likely 118 = .ok (.bipush (-2), 2) := by decide +kernel
theorem dX9_likely_120 : decode cX9_likely 120 = .ok (.istore_n 1, 1) := by decide +kernel
theorem dX9_likely_121 : decode cX9_likely 121 = .ok (.iconst 0, 1) := by decide +kernel
theorem dX9_likely_122 : decode cX9_likely 122 = .ok (.istore_n 2, 1) := by decide +kernel
theorem dX9_likely_123 : decode cX9_likely 123 = .ok (.iload_n 2, 1) := by decide +kernel
theorem dX9_likely_124 : decode cX9_likely 124 = .ok (.aload_n 0, 1) := by decide +kernel
theorem dX9_likely_125 : decode cX9_likely 125 = .ok (.getfield 20, 3) := by decide +kernel
theorem dX9_likely_128 : decode cX9_likely 128 = .ok (.bipush 17, 2) := by decide +kernel
theorem dX9_likely_130 : decode cX9_likely 130 = .ok (.iaload, 1) := by decide +kernel
theorem dX9_likely_131 : decode cX9_likely 131 = .ok (.if_icmp .ge 80, 3) := by decide +kernel
theorem dX9_likely_134 : decode cX9_likely 134 = .ok (.iconst 1, 1) := by decide +kernel
theorem dX9_likely_135 : decode cX9_likely 135 = .ok (.istore_n 3, 1) := by decide +kernel
theorem dX9_likely_136 : decode cX9_likely 136 = .ok (.iconst 0, 1) := by decide +kernel
theorem dX9_likely_137 : decode cX9_likely 137 = .ok (.istore 4, 2) := by decide +kernel
theorem dX9_likely_139 : decode cX9_likely 139 = .ok (.iload 4, 2) := by decide +kernel
theorem dX9_likely_141 : decode cX9_likely 141 = .ok (.aload_n 0, 1) := by decide +kernel
theorem dX9_likely_142 : decode cX9_likely 142 = .ok (.getfield 20, 3) := by decide +kernel
theorem dX9_likely_145 : decode cX9_likely 145 = .ok (.bipush 39, 2) := by decide +kernel
theorem dX9_likely_147 : decode cX9_likely 147 = .ok (.iaload, 1) := by decide +kernel
theorem dX9_likely_148 : decode cX9_likely 148 = .ok (.if_icmp .ge 36, 3) := by decide +kernel
theorem dX9_likely_151 : decode cX9_likely 151 = .ok (.iload_n 3, 1) := by decide +kernel
theorem dX9_likely_152 : decode cX9_likely 152 = .ok (.ifCond .eq 24, 3) := by decide +kernel
theorem dX9_likely_155 : decode cX9_likely 155 = .ok (.aload_n 0, 1) := by decide +kernel
theorem dX9_likely_156 : decode cX9_likely 156 = .ok (.getfield 63, 3) := by decide +kernel
theorem dX9_likely_159 : decode cX9_likely 159 = .ok (.bipush 8, 2) := by decide +kernel
theorem dX9_likely_161 : decode cX9_likely 161 = .ok (.iload_n 2, 1) := by decide +kernel
theorem dX9_likely_162 : decode cX9_likely 162 = .ok (.imul, 1) := by decide +kernel
theorem dX9_likely_163 : decode cX9_likely 163 = .ok (.iload 4, 2) := by decide +kernel
theorem dX9_likely_165 : decode cX9_likely 165 = .ok (.iadd, 1) := by decide +kernel
theorem dX9_likely_166 : decode cX9_likely 166 = .ok (.laload, 1) := by decide +kernel
theorem dX9_likely_167 : decode cX9_likely 167 = .ok (.lconst 0, 1) := by decide +kernel
theorem dX9_likely_168 : decode cX9_likely 168 = .ok (.lcmp, 1) := by decide +kernel
theorem dX9_likely_169 : decode cX9_likely 169 = .ok (.ifCond .le 7, 3) := by decide +kernel
theorem dX9_likely_172 : decode cX9_likely 172 = .ok (.iconst 1, 1) := by decide +kernel
theorem dX9_likely_173 : decode cX9_likely 173 = .ok (.goto 4, 3) := by decide +kernel
theorem dX9_likely_176 : decode cX9_likely 176 = .ok (.iconst 0, 1) := by decide +kernel
theorem dX9_likely_177 : decode cX9_likely 177 = .ok (.istore_n 3, 1) := by decide +kernel
theorem dX9_likely_178 : decode cX9_likely 178 = .ok (.iinc 4 1, 3) := by decide +kernel
theorem dX9_likely_181 : decode cX9_likely 181 = .ok (.goto (-42), 3) := by decide +kernel
theorem dX9_likely_184 : decode cX9_likely 184 = .ok (.iload_n 3, 1) := by decide +kernel
theorem dX9_likely_185 : decode cX9_likely 185 = .ok (.ifCond .eq 20, 3) := by decide +kernel
theorem dX9_likely_188 : decode cX9_likely 188 = .ok (.iload_n 1, 1) := by decide +kernel
theorem dX9_likely_189 : decode cX9_likely 189 = .ok (.bipush (-2), 2) := by decide +kernel
theorem dX9_likely_191 : decode cX9_likely 191 = .ok (.if_icmp .eq 12, 3) := by decide +kernel
theorem dX9_likely_194 : decode cX9_likely 194 = .ok (.aload_n 0, 1) := by decide +kernel
theorem dX9_likely_195 : decode cX9_likely 195 = .ok (.iload_n 2, 1) := by decide +kernel
theorem dX9_likely_196 : decode cX9_likely 196 = .ok (.iload_n 1, 1) := by decide +kernel
theorem dX9_likely_197 : decode cX9_likely 197 = .ok (.invokevirtual 376, 3) := by decide +kernel
theorem dX9_likely_200 : decode cX9_likely 200 = .ok (.ifCond .eq 5, 3) := by decide +kernel
theorem dX9_likely_203 : decode cX9_likely 203 = .ok (.iload_n 2, 1) := by decide +kernel
theorem dX9_likely_204 : decode cX9_likely 204 = .ok (.istore_n 1, 1) := by decide +kernel
theorem dX9_likely_205 : decode cX9_likely 205 = .ok (.iinc 2 1, 3) := by decide +kernel
theorem dX9_likely_208 : decode cX9_likely 208 = .ok (.goto (-85), 3) := by decide +kernel
theorem dX9_likely_211 : decode cX9_likely 211 = .ok (.iload_n 1, 1) := by decide +kernel
theorem dX9_likely_212 : decode cX9_likely 212 = .ok (.ireturn, 1) := by decide +kernel
theorem dX9_isLikelier_0 : decode cX9_isLikelier 0 = .ok (.aload_n 0, 1) := by decide +kernel
theorem dX9_isLikelier_1 : decode cX9_isLikelier 1 = .ok (.getfield 54, 3) := by decide +kernel
theorem dX9_isLikelier_4 : decode cX9_isLikelier 4 = .ok (.invokestatic 352, 3) := by decide +kernel
theorem dX9_isLikelier_7 : decode cX9_isLikelier 7 = .ok (.aload_n 0, 1) := by decide +kernel
theorem dX9_isLikelier_8 : decode cX9_isLikelier 8 = .ok (.getfield 57, 3) := by decide +kernel
theorem dX9_isLikelier_11 : decode cX9_isLikelier 11 = .ok (.invokestatic 352, 3) := by decide +kernel
theorem dX9_isLikelier_14 : decode cX9_isLikelier 14 = .ok (.iconst 0, 1) := by decide +kernel
theorem dX9_isLikelier_15 : decode cX9_isLikelier 15 = .ok (.istore_n 3, 1) := by decide +kernel
theorem dX9_isLikelier_16 : decode cX9_isLikelier 16 = .ok (.iload_n 3, 1) := by decide +kernel
theorem dX9_isLikelier_17 : decode cX9_isLikelier 17 = .ok (.aload_n 0, 1) := by decide +kernel
theorem dX9_isLikelier_18 : decode cX9_isLikelier 18 = .ok (.getfield 20, 3) := by decide +kernel
theorem dX9_isLikelier_21 : decode cX9_isLikelier 21 = .ok (.bipush 39, 2) := by decide +kernel
theorem dX9_isLikelier_23 : decode cX9_isLikelier 23 = .ok (.iaload, 1) := by decide +kernel
theorem dX9_isLikelier_24 : decode cX9_isLikelier 24 = .ok (.if_icmp .ge 75, 3) := by decide +kernel
theorem dX9_isLikelier_27 : decode cX9_isLikelier 27 = .ok (.aload_n 0, 1) := by decide +kernel
theorem dX9_isLikelier_28 : decode cX9_isLikelier 28 = .ok (.aload_n 0, 1) := by decide +kernel
theorem dX9_isLikelier_29 : decode cX9_isLikelier 29 = .ok (.getfield 54, 3) := by decide +kernel
theorem dX9_isLikelier_32 : decode cX9_isLikelier 32 = .ok (.aload_n 0, 1) := by decide +kernel
theorem dX9_isLikelier_33 : decode cX9_isLikelier 33 = .ok (.getfield 63, 3) := by decide +kernel
theorem dX9_isLikelier_36 : decode cX9_isLikelier 36 = .ok (.bipush 8, 2) := by decide +kernel
theorem dX9_isLikelier_38 : decode cX9_isLikelier 38 = .ok (.iload_n 1, 1) := by decide +kernel
theorem dX9_isLikelier_39 : decode cX9_isLikelier 39 = .ok (.imul, 1) := by decide +kernel
theorem dX9_isLikelier_40 : decode cX9_isLikelier 40 = .ok (.iload_n 3, 1) := by decide +kernel
theorem dX9_isLikelier_41 : decode cX9_isLikelier 41 = .ok (.iadd, 1) := by decide +kernel
theorem dX9_isLikelier_42 : decode cX9_isLikelier 42 = .ok (.laload, 1) := by decide +kernel
theorem dX9_isLikelier_43 : decode cX9_isLikelier 43 = .ok (.invokevirtual 356, 3) := by decide +kernel
theorem dX9_isLikelier_46 : decode cX9_isLikelier 46 = .ok (.aload_n 0, 1) := by decide +kernel
theorem dX9_isLikelier_47 : decode cX9_isLikelier 47 = .ok (.aload_n 0, 1) := by decide +kernel
theorem dX9_isLikelier_48 : decode cX9_isLikelier 48 = .ok (.getfield 54, 3) := by decide +kernel
theorem dX9_isLikelier_51 : decode cX9_isLikelier 51 = .ok (.aload_n 0, 1) := by decide +kernel
theorem dX9_isLikelier_52 : decode cX9_isLikelier 52 = .ok (.getfield 66, 3) := by decide +kernel
theorem dX9_isLikelier_55 : decode cX9_isLikelier 55 = .ok (.iload_n 2, 1) := by decide +kernel
theorem dX9_isLikelier_56 : decode cX9_isLikelier 56 = .ok (.laload, 1) := by decide +kernel
theorem dX9_isLikelier_57 : decode cX9_isLikelier 57 = .ok (.invokevirtual 356, 3) := by decide +kernel
theorem dX9_isLikelier_60 : decode cX9_isLikelier 60 = .ok (.aload_n 0, 1) := by decide +kernel
theorem dX9_isLikelier_61 : decode cX9_isLikelier 61 = .ok (.aload_n 0, 1) := by decide +kernel
theorem dX9_isLikelier_62 : decode cX9_isLikelier 62 = .ok (.getfield 57, 3) := by decide +kernel
theorem dX9_isLikelier_65 : decode cX9_isLikelier 65 = .ok (.aload_n 0, 1) := by decide +kernel
theorem dX9_isLikelier_66 : decode cX9_isLikelier 66 = .ok (.getfield 63, 3) := by decide +kernel
theorem dX9_isLikelier_69 : decode cX9_isLikelier 69 = .ok (.bipush 8, 2) := by decide +kernel
theorem dX9_isLikelier_71 : decode cX9_isLikelier 71 = .ok (.iload_n 2, 1) := by decide +kernel
theorem dX9_isLikelier_72 : decode cX9_isLikelier 72 = .ok (.imul, 1) := by decide +kernel
theorem dX9_isLikelier_73 : decode cX9_isLikelier 73 = .ok (.iload_n 3, 1) := by decide +kernel
theorem dX9_isLikelier_74 : decode cX9_isLikelier 74 = .ok (.iadd, 1) := by decide +kernel
theorem dX9_isLikelier_75 : decode cX9_isLikelier 75 = .ok (.laload, 1) := by decide +kernel
theorem dX9_isLikelier_76 : decode cX9_isLikelier 76 = .ok (.invokevirtual 356, 3) := by decide +kernel
theorem dX9_isLikelier_79 : decode cX9_isLikelier 79 = .ok (.aload_n 0, 1) := by decide +kernel
theorem dX9_isLikelier_80 : decode cX9_isLikelier 80 = .ok (.aload_n 0, 1) := by decide +kernel
theorem dX9_isLikelier_81 : decode cX9_isLikelier 81 = .ok (.getfield 57, 3) := by decide +kernel
theorem dX9_isLikelier_84 : decode cX9_isLikelier 84 = .ok (.aload_n 0, 1) := by decide +kernel
theorem dX9_isLikelier_85 : decode cX9_isLikelier 85 = .ok (.getfield 66, 3) := by decide +kernel
theorem dX9_isLikelier_88 : decode cX9_isLikelier 88 = .ok (.iload_n 1, 1) := by decide +kernel
theorem dX9_isLikelier_89 : decode cX9_isLikelier 89 = .ok (.laload, 1) := by decide +kernel
theorem dX9_isLikelier_90 : decode cX9_isLikelier 90 = .ok (.invokevirtual 356, 3) := by decide +kernel
theorem dX9_isLikelier_93 : decode cX9_isLikelier 93 = .ok (.iinc 3 1, 3) := by decide +kernel
theorem dX9_isLikelier_96 : decode cX9_isLikelier 96 = .ok (.goto (-80), 3) := by decide +kernel
theorem dX9_isLikelier_99 : decode cX9_isLikelier 99 = .ok (.aload_n 0, 1) := by decide +kernel
theorem dX9_isLikelier_100 : decode cX9_isLikelier 100 = .ok (.getfield 54, 3) := by decide +kernel
theorem dX9_isLikelier_103 : decode cX9_isLikelier 103 = .ok (.aload_n 0, 1) := by decide +kernel
theorem dX9_isLikelier_104 : decode cX9_isLikelier 104 = .ok (.getfield 57, 3) := by decide +kernel
theorem dX9_isLikelier_107 : decode cX9_isLikelier 107 = .ok (.invokestatic 360, 3) := by decide +kernel
theorem dX9_isLikelier_110 : decode cX9_isLikelier 110 = .ok (.ifCond .le 7, 3) := by decide +kernel
theorem dX9_isLikelier_113 : decode cX9_isLikelier 113 = .ok (.iconst 1, 1) := by decide +kernel
theorem dX9_isLikelier_114 : decode cX9_isLikelier 114 = .ok (.goto 4, 3) := by decide +kernel
theorem dX9_isLikelier_117 : decode cX9_isLikelier 117 = .ok (.iconst 0, 1) := by decide +kernel
theorem dX9_isLikelier_118 : decode cX9_isLikelier 118 = .ok (.ireturn, 1) := by decide +kernel
theorem dX9_cannot_0 : decode cX9_cannot 0 = .ok (.aload_n 0, 1) := by decide +kernel
theorem dX9_cannot_1 : decode cX9_cannot 1 = .ok (.invokevirtual 150, 3) := by decide +kernel
theorem dX9_cannot_4 : decode cX9_cannot 4 = .ok (.aload_n 0, 1) := by decide +kernel
theorem dX9_cannot_5 : decode cX9_cannot 5 = .ok (.iload_n 1, 1) := by decide +kernel
theorem dX9_cannot_6 : decode cX9_cannot 6 = .ok (.invokevirtual 320, 3) := by decide +kernel
theorem dX9_cannot_9 : decode cX9_cannot 9 = .ok (.ifCond .ne 9, 3) := by decide +kernel
theorem dX9_cannot_12 : decode cX9_cannot 12 = .ok (.aload_n 0, 1) := by decide +kernel
theorem dX9_cannot_13 : decode cX9_cannot 13 = .ok (.iconst 1, 1) := by decide +kernel
theorem dX9_cannot_14 : decode cX9_cannot 14 = .ok (.invokevirtual 153, 3) := by decide +kernel
theorem dX9_cannot_17 : decode cX9_cannot 17 = .ok (.ireturn, 1) := by decide +kernel
theorem dX9_cannot_18 : decode cX9_cannot 18 = .ok (.aload_n 0, 1) := by decide +kernel
theorem dX9_cannot_19 : decode cX9_cannot 19 = .ok (.iload_n 1, 1) := by decide +kernel
theorem dX9_cannot_20 : decode cX9_cannot 20 = .ok (.aload_n 0, 1) := by decide +kernel
theorem dX9_cannot_21 : decode cX9_cannot 21 = .ok (.getfield 20, 3) := by decide +kernel
theorem dX9_cannot_24 : decode cX9_cannot 24 = .ok (.iconst 1, 1) := by decide +kernel
theorem dX9_cannot_25 : decode cX9_cannot 25 = .ok (.iaload, 1) := by decide +kernel
theorem dX9_cannot_26 : decode cX9_cannot 26 = .ok (.invokevirtual 323, 3) := by decide +kernel
theorem dX9_cannot_29 : decode cX9_cannot 29 = .ok (.ifCond .ne 9, 3) := by decide +kernel
theorem dX9_cannot_32 : decode cX9_cannot 32 = .ok (.aload_n 0, 1) := by decide +kernel
theorem dX9_cannot_33 : decode cX9_cannot 33 = .ok (.iconst 3, 1) := by decide +kernel
theorem dX9_cannot_34 : decode cX9_cannot 34 = .ok (.invokevirtual 153, 3) := by decide +kernel
theorem dX9_cannot_37 : decode cX9_cannot 37 = .ok (.ireturn, 1) := by decide +kernel
theorem dX9_cannot_38 : decode cX9_cannot 38 = .ok (.iconst 0, 1) := by decide +kernel
theorem dX9_cannot_39 : decode cX9_cannot 39 = .ok (.istore_n 2, 1) := by decide +kernel
theorem dX9_cannot_40 : decode cX9_cannot 40 = .ok (.iconst 0, 1) := by decide +kernel
theorem dX9_cannot_41 : decode cX9_cannot 41 = .ok (.istore_n 3, 1) := by decide +kernel
theorem dX9_cannot_42 : decode cX9_cannot 42 = .ok (.iload_n 3, 1) := by decide +kernel
theorem dX9_cannot_43 : decode cX9_cannot 43 = .ok (.aload_n 0, 1) := by decide +kernel
theorem dX9_cannot_44 : decode cX9_cannot 44 = .ok (.getfield 20, 3) := by decide +kernel
theorem dX9_cannot_47 : decode cX9_cannot 47 = .ok (.bipush 39, 2) := by decide +kernel
theorem dX9_cannot_49 : decode cX9_cannot 49 = .ok (.iaload, 1) := by decide +kernel
theorem dX9_cannot_50 : decode cX9_cannot 50 = .ok (.if_icmp .ge 29, 3) := by decide +kernel
theorem dX9_cannot_53 : decode cX9_cannot 53 = .ok (.iload_n 2, 1) := by decide +kernel
theorem dX9_cannot_54 : decode cX9_cannot 54 = .ok (.aload_n 0, 1) := by decide +kernel
theorem dX9_cannot_55 : decode cX9_cannot 55 = .ok (.iload_n 3, 1) := by decide +kernel
theorem dX9_cannot_56 : decode cX9_cannot 56 = .ok (.invokevirtual 347, 3) := by decide +kernel
theorem dX9_cannot_59 : decode cX9_cannot 59 = .ok (.lconst 0, 1) := by decide +kernel
theorem dX9_cannot_60 : decode cX9_cannot 60 = .ok (.lcmp, 1) := by decide +kernel
theorem dX9_cannot_61 : decode cX9_cannot 61 = .ok (.ifCond .ne 9, 3) := by decide +kernel
theorem dX9_cannot_64 : decode cX9_cannot 64 = .ok (.iconst 1, 1) := by decide +kernel
theorem dX9_cannot_65 : decode cX9_cannot 65 = .ok (.iload_n 3, 1) := by decide +kernel
theorem dX9_cannot_66 : decode cX9_cannot 66 = .ok (.ishl, 1) := by decide +kernel
theorem dX9_cannot_67 : decode cX9_cannot 67 = .ok (.goto 4, 3) := by decide +kernel
theorem dX9_cannot_70 : decode cX9_cannot 70 = .ok (.iconst 0, 1) := by decide +kernel
theorem dX9_cannot_71 : decode cX9_cannot 71 = .ok (.ior, 1) := by decide +kernel
theorem dX9_cannot_72 : decode cX9_cannot 72 = .ok (.istore_n 2, 1) := by decide +kernel
theorem dX9_cannot_73 : decode cX9_cannot 73 = .ok (.iinc 3 1, 3) := by decide +kernel
theorem dX9_cannot_76 : decode cX9_cannot 76 = .ok (.goto (-34), 3) := by decide +kernel
theorem dX9_cannot_79 : decode cX9_cannot 79 = .ok (.iload_n 2, 1) := by decide +kernel
theorem dX9_cannot_80 : decode cX9_cannot 80 = .ok (.ireturn, 1) := by decide +kernel
theorem dX9_begin_0 : decode cX9_begin 0 = .ok (.iconst 0, 1) := by decide +kernel
theorem dX9_begin_1 : decode cX9_begin 1 = .ok (.istore_n 3, 1) := by decide +kernel
theorem dX9_begin_2 : decode cX9_begin 2 = .ok (.iload_n 3, 1) := by decide +kernel
theorem dX9_begin_3 : decode cX9_begin 3 = .ok (.bipush 9, 2) := by decide +kernel
theorem dX9_begin_5 : decode cX9_begin 5 = .ok (.if_icmp .ge 16, 3) := by decide +kernel
theorem dX9_begin_8 : decode cX9_begin 8 = .ok (.aload_n 0, 1) := by decide +kernel
theorem dX9_begin_9 : decode cX9_begin 9 = .ok (.getfield 26, 3) := by decide +kernel
theorem dX9_begin_12 : decode cX9_begin 12 = .ok (.iload_n 3, 1) := by decide +kernel
theorem dX9_begin_13 : decode cX9_begin 13 = .ok (.iconst 0, 1) := by decide +kernel
theorem dX9_begin_14 : decode cX9_begin 14 = .ok (.iastore, 1) := by decide +kernel
theorem dX9_begin_15 : decode cX9_begin 15 = .ok (.iinc 3 1, 3) := by decide +kernel
theorem dX9_begin_18 : decode cX9_begin 18 = .ok (.goto (-16), 3) := by decide +kernel
theorem dX9_begin_21 : decode cX9_begin 21 = .ok (.aload_n 0, 1) := by decide +kernel
theorem dX9_begin_22 : decode cX9_begin 22 = .ok (.getfield 26, 3) := by decide +kernel
theorem dX9_begin_25 : decode cX9_begin 25 = .ok (.iconst 5, 1) := by decide +kernel
theorem dX9_begin_26 : decode cX9_begin 26 = .ok (.iload_n 1, 1) := by decide +kernel
theorem dX9_begin_27 : decode cX9_begin 27 = .ok (.iastore, 1) := by decide +kernel
theorem dX9_begin_28 : decode cX9_begin 28 = .ok (.aload_n 0, 1) := by decide +kernel
theorem dX9_begin_29 : decode cX9_begin 29 = .ok (.getfield 26, 3) := by decide +kernel
theorem dX9_begin_32 : decode cX9_begin 32 = .ok (.bipush 7, 2) := by decide +kernel
theorem dX9_begin_34 : decode cX9_begin 34 = .ok (.bipush (-2), 2) := by decide +kernel
theorem dX9_begin_36 : decode cX9_begin 36 = .ok (.iastore, 1) := by decide +kernel
theorem dX9_begin_37 : decode cX9_begin 37 = .ok (.aload_n 0, 1) := by decide +kernel
theorem dX9_begin_38 : decode cX9_begin 38 = .ok (.getfield 26, 3) := by decide +kernel
theorem dX9_begin_41 : decode cX9_begin 41 = .ok (.bipush 8, 2) := by decide +kernel
theorem dX9_begin_43 : decode cX9_begin 43 = .ok (.iload_n 2, 1) := by decide +kernel
theorem dX9_begin_44 : decode cX9_begin 44 = .ok (.iastore, 1) := by decide +kernel
theorem dX9_begin_45 : decode cX9_begin 45 = .ok (.return_, 1) := by decide +kernel
theorem dX9_layDay_0 : decode cX9_layDay 0 = .ok (.iconst 0, 1) := by decide +kernel
theorem dX9_layDay_1 : decode cX9_layDay 1 = .ok (.istore_n 1, 1) := by decide +kernel
theorem dX9_layDay_2 : decode cX9_layDay 2 = .ok (.iload_n 1, 1) := by decide +kernel
theorem dX9_layDay_3 : decode cX9_layDay 3 = .ok (.iconst 5, 1) := by decide +kernel
theorem dX9_layDay_4 : decode cX9_layDay 4 = .ok (.if_icmp .ge 21, 3) := by decide +kernel
theorem dX9_layDay_7 : decode cX9_layDay 7 = .ok (.aload_n 0, 1) := by decide +kernel
theorem dX9_layDay_8 : decode cX9_layDay 8 = .ok (.getfield 32, 3) := by decide +kernel
theorem dX9_layDay_11 : decode cX9_layDay 11 = .ok (.iload_n 1, 1) := by decide +kernel
theorem dX9_layDay_12 : decode cX9_layDay 12 = .ok (.aload_n 0, 1) := by decide +kernel
theorem dX9_layDay_13 : decode cX9_layDay 13 = .ok (.getfield 26, 3) := by decide +kernel
theorem dX9_layDay_16 : decode cX9_layDay 16 = .ok (.iload_n 1, 1) := by decide +kernel
theorem dX9_layDay_17 : decode cX9_layDay 17 = .ok (.iaload, 1) := by decide +kernel
theorem dX9_layDay_18 : decode cX9_layDay 18 = .ok (.iastore, 1) := by decide +kernel
theorem dX9_layDay_19 : decode cX9_layDay 19 = .ok (.iinc 1 1, 3) := by decide +kernel
theorem dX9_layDay_22 : decode cX9_layDay 22 = .ok (.goto (-20), 3) := by decide +kernel
theorem dX9_layDay_25 : decode cX9_layDay 25 = .ok (.aload_n 0, 1) := by decide +kernel
theorem dX9_layDay_26 : decode cX9_layDay 26 = .ok (.aload_n 0, 1) := by decide +kernel
theorem dX9_layDay_27 : decode cX9_layDay 27 = .ok (.getfield 26, 3) := by decide +kernel
theorem dX9_layDay_30 : decode cX9_layDay 30 = .ok (.bipush 7, 2) := by decide +kernel
theorem dX9_layDay_32 : decode cX9_layDay 32 = .ok (.iaload, 1) := by decide +kernel
theorem dX9_layDay_33 : decode cX9_layDay 33 = .ok (.bipush (-2), 2) := by decide +kernel
theorem dX9_layDay_35 : decode cX9_layDay 35 = .ok (.if_icmp .ne 7, 3) := by decide +kernel
theorem dX9_layDay_38 : decode cX9_layDay 38 = .ok (.iconst (-1), 1) := by decide +kernel
theorem dX9_layDay_39 : decode cX9_layDay 39 = .ok (.goto 10, 3) := by decide +kernel
theorem dX9_layDay_42 : decode cX9_layDay 42 = .ok (.aload_n 0, 1) := by decide +kernel
theorem dX9_layDay_43 : decode cX9_layDay 43 = .ok (.getfield 26, 3) := by decide +kernel
theorem dX9_layDay_46 : decode cX9_layDay 46 = .ok (.bipush 7, 2) := by decide +kernel
theorem dX9_layDay_48 : decode cX9_layDay 48 = .ok (.iaload, 1) := by decide +kernel
theorem dX9_layDay_49 : decode cX9_layDay 49 = .ok (.putfield 228, 3) := by decide +kernel
theorem dX9_layDay_52 : decode cX9_layDay 52 = .ok (.return_, 1) := by decide +kernel
theorem dX9_keepDay_0 : decode cX9_keepDay 0 = .ok (.iconst 0, 1) := by decide +kernel
theorem dX9_keepDay_1 : decode cX9_keepDay 1 = .ok (.istore_n 1, 1) := by decide +kernel
theorem dX9_keepDay_2 : decode cX9_keepDay 2 = .ok (.iload_n 1, 1) := by decide +kernel
theorem dX9_keepDay_3 : decode cX9_keepDay 3 = .ok (.iconst 5, 1) := by decide +kernel
theorem dX9_keepDay_4 : decode cX9_keepDay 4 = .ok (.if_icmp .ge 21, 3) := by decide +kernel
theorem dX9_keepDay_7 : decode cX9_keepDay 7 = .ok (.aload_n 0, 1) := by decide +kernel
theorem dX9_keepDay_8 : decode cX9_keepDay 8 = .ok (.getfield 26, 3) := by decide +kernel
theorem dX9_keepDay_11 : decode cX9_keepDay 11 = .ok (.iload_n 1, 1) := by decide +kernel
theorem dX9_keepDay_12 : decode cX9_keepDay 12 = .ok (.aload_n 0, 1) := by decide +kernel
theorem dX9_keepDay_13 : decode cX9_keepDay 13 = .ok (.getfield 32, 3) := by decide +kernel
theorem dX9_keepDay_16 : decode cX9_keepDay 16 = .ok (.iload_n 1, 1) := by decide +kernel
theorem dX9_keepDay_17 : decode cX9_keepDay 17 = .ok (.iaload, 1) := by decide +kernel
theorem dX9_keepDay_18 : decode cX9_keepDay 18 = .ok (.iastore, 1) := by decide +kernel
theorem dX9_keepDay_19 : decode cX9_keepDay 19 = .ok (.iinc 1 1, 3) := by decide +kernel
theorem dX9_keepDay_22 : decode cX9_keepDay 22 = .ok (.goto (-20), 3) := by decide +kernel
theorem dX9_keepDay_25 : decode cX9_keepDay 25 = .ok (.aload_n 0, 1) := by decide +kernel
theorem dX9_keepDay_26 : decode cX9_keepDay 26 = .ok (.getfield 26, 3) := by decide +kernel
theorem dX9_keepDay_29 : decode cX9_keepDay 29 = .ok (.bipush 7, 2) := by decide +kernel
theorem dX9_keepDay_31 : decode cX9_keepDay 31 = .ok (.aload_n 0, 1) := by decide +kernel
theorem dX9_keepDay_32 : decode cX9_keepDay 32 = .ok (.getfield 228, 3) := by decide +kernel
theorem dX9_keepDay_35 : decode cX9_keepDay 35 = .ok (.ifCond .ge 8, 3) := by decide +kernel
theorem dX9_keepDay_38 : decode cX9_keepDay 38 = .ok (.bipush (-2), 2) := by decide +kernel
theorem dX9_keepDay_40 : decode cX9_keepDay 40 = .ok (.goto 7, 3) := by decide +kernel
theorem dX9_keepDay_43 : decode cX9_keepDay 43 = .ok (.aload_n 0, 1) := by decide +kernel
theorem dX9_keepDay_44 : decode cX9_keepDay 44 = .ok (.getfield 228, 3) := by decide +kernel
theorem dX9_keepDay_47 : decode cX9_keepDay 47 = .ok (.iastore, 1) := by decide +kernel
theorem dX9_keepDay_48 : decode cX9_keepDay 48 = .ok (.return_, 1) := by decide +kernel
theorem dX9_day_0 : decode cX9_day 0 = .ok (.aload_n 0, 1) := by decide +kernel
theorem dX9_day_1 : decode cX9_day 1 = .ok (.invokevirtual 150, 3) := by decide +kernel
theorem dX9_day_4 : decode cX9_day 4 = .ok (.aload_n 0, 1) := by decide +kernel
theorem dX9_day_5 : decode cX9_day 5 = .ok (.iload_n 1, 1) := by decide +kernel
theorem dX9_day_6 : decode cX9_day 6 = .ok (.invokevirtual 320, 3) := by decide +kernel
theorem dX9_day_9 : decode cX9_day 9 = .ok (.ifCond .ne 9, 3) := by decide +kernel
theorem dX9_day_12 : decode cX9_day 12 = .ok (.aload_n 0, 1) := by decide +kernel
theorem dX9_day_13 : decode cX9_day 13 = .ok (.iconst 1, 1) := by decide +kernel
theorem dX9_day_14 : decode cX9_day 14 = .ok (.invokevirtual 379, 3) := by decide +kernel
theorem dX9_day_17 : decode cX9_day 17 = .ok (.ireturn, 1) := by decide +kernel
theorem dX9_day_18 : decode cX9_day 18 = .ok (.iload_n 2, 1) := by decide +kernel
theorem dX9_day_19 : decode cX9_day 19 = .ok (.iconst 0, 1) := by decide +kernel
theorem dX9_day_20 : decode cX9_day 20 = .ok (.ldc_w 382, 3) := by decide +kernel
theorem dX9_day_23 : decode cX9_day 23 = .ok (.invokestatic 138, 3) := by decide +kernel
theorem dX9_day_26 : decode cX9_day 26 = .ok (.ifCond .ne 9, 3) := by decide +kernel
theorem dX9_day_29 : decode cX9_day 29 = .ok (.aload_n 0, 1) := by decide +kernel
theorem dX9_day_30 : decode cX9_day 30 = .ok (.iconst 2, 1) := by decide +kernel
theorem dX9_day_31 : decode cX9_day 31 = .ok (.invokevirtual 379, 3) := by decide +kernel
theorem dX9_day_34 : decode cX9_day 34 = .ok (.ireturn, 1) := by decide +kernel
theorem dX9_day_35 : decode cX9_day 35 = .ok (.aload_n 0, 1) := by decide +kernel
theorem dX9_day_36 : decode cX9_day 36 = .ok (.iload_n 1, 1) := by decide +kernel
theorem dX9_day_37 : decode cX9_day 37 = .ok (.iload_n 2, 1) := by decide +kernel
theorem dX9_day_38 : decode cX9_day 38 = .ok (.invokevirtual 165, 3) := by decide +kernel
theorem dX9_day_41 : decode cX9_day 41 = .ok (.iconst 1, 1) := by decide +kernel
theorem dX9_day_42 : decode cX9_day 42 = .ok (.ireturn, 1) := by decide +kernel
theorem dX9_draw_0 : decode cX9_draw 0 = .ok (.aload_n 0, 1) := by decide +kernel
theorem dX9_draw_1 : decode cX9_draw 1 = .ok (.getfield 26, 3) := by decide +kernel
theorem dX9_draw_4 : decode cX9_draw 4 = .ok (.bipush 8, 2) := by decide +kernel
theorem dX9_draw_6 : decode cX9_draw 6 = .ok (.bipush 75, 2) := by decide +kernel
theorem dX9_draw_8 : decode cX9_draw 8 = .ok (.aload_n 0, 1) := by decide +kernel
theorem dX9_draw_9 : decode cX9_draw 9 = .ok (.getfield 26, 3) := by decide +kernel
theorem dX9_draw_12 : decode cX9_draw 12 = .ok (.bipush 8, 2) := by decide +kernel
theorem dX9_draw_14 : decode cX9_draw 14 = .ok (.iaload, 1) := by decide +kernel
theorem dX9_draw_15 : decode cX9_draw 15 = .ok (.imul, 1) := by decide +kernel
theorem dX9_draw_16 : decode cX9_draw 16 = .ok (.bipush 74, 2) := by decide +kernel
theorem dX9_draw_18 : decode cX9_draw 18 = .ok (.iadd, 1) := by decide +kernel
theorem dX9_draw_19 : decode cX9_draw 19 = .ok (.ldc_w 383, 3) := by decide +kernel
theorem dX9_draw_22 : decode cX9_draw 22 = .ok (.irem, 1) := by decide +kernel
theorem dX9_draw_23 : decode cX9_draw 23 = .ok (.iastore, 1) := by decide +kernel
theorem dX9_draw_24 : decode cX9_draw 24 = .ok (.aload_n 0, 1) := by decide +kernel
theorem dX9_draw_25 : decode cX9_draw 25 = .ok (.getfield 26, 3) := by decide +kernel
theorem dX9_draw_28 : decode cX9_draw 28 = .ok (.bipush 8, 2) := by decide +kernel
theorem dX9_draw_30 : decode cX9_draw 30 = .ok (.iaload, 1) := by decide +kernel
theorem dX9_draw_31 : decode cX9_draw 31 = .ok (.iload_n 1, 1) := by decide +kernel
theorem dX9_draw_32 : decode cX9_draw 32 = .ok (.irem, 1) := by decide +kernel
theorem dX9_draw_33 : decode cX9_draw 33 = .ok (.ireturn, 1) := by decide +kernel
theorem dX9_putOne_0 : decode cX9_putOne 0 = .ok (.aload_n 0, 1) := by decide +kernel
theorem dX9_putOne_1 : decode cX9_putOne 1 = .ok (.getfield 26, 3) := by decide +kernel
theorem dX9_putOne_4 : decode cX9_putOne 4 = .ok (.bipush 6, 2) := by decide +kernel
theorem dX9_putOne_6 : decode cX9_putOne 6 = .ok (.dup2, 1) := by decide +kernel
theorem dX9_putOne_7 : decode cX9_putOne 7 = .ok (.iaload, 1) := by decide +kernel
theorem dX9_putOne_8 : decode cX9_putOne 8 = .ok (.iconst 1, 1) := by decide +kernel
theorem dX9_putOne_9 : decode cX9_putOne 9 = .ok (.iadd, 1) := by decide +kernel
theorem dX9_putOne_10 : decode cX9_putOne 10 = .ok (.iastore, 1) := by decide +kernel
theorem dX9_putOne_11 : decode cX9_putOne 11 = .ok (.aload_n 0, 1) := by decide +kernel
theorem dX9_putOne_12 : decode cX9_putOne 12 = .ok (.invokevirtual 384, 3) := by decide +kernel
theorem dX9_putOne_15 : decode cX9_putOne 15 = .ok (.iconst (-1), 1) := by decide +kernel
theorem dX9_putOne_16 : decode cX9_putOne 16 = .ok (.istore_n 1, 1) := by decide +kernel
theorem dX9_putOne_17 : decode cX9_putOne 17 = .ok (.aload_n 0, 1) := by decide +kernel
theorem dX9_putOne_18 : decode cX9_putOne 18 = .ok (.aload_n 0, 1) := by decide +kernel
theorem dX9_putOne_19 : decode cX9_putOne 19 = .ok (.getfield 26, 3) := by decide +kernel
theorem dX9_putOne_22 : decode cX9_putOne 22 = .ok (.bipush 6, 2) := by decide +kernel
theorem dX9_putOne_24 : decode cX9_putOne 24 = .ok (.iaload, 1) := by decide +kernel
theorem dX9_putOne_25 : decode cX9_putOne 25 = .ok (.invokevirtual 263, 3) := by decide +kernel
theorem dX9_putOne_28 : decode cX9_putOne 28 = .ok (.ifCond .eq 18, 3) := by decide +kernel
theorem dX9_putOne_31 : decode cX9_putOne 31 = .ok (.aload_n 0, 1) := by decide +kernel
theorem dX9_putOne_32 : decode cX9_putOne 32 = .ok (.aload_n 0, 1) := by decide +kernel
theorem dX9_putOne_33 : decode cX9_putOne 33 = .ok (.getfield 20, 3) := by decide +kernel
theorem dX9_putOne_36 : decode cX9_putOne 36 = .ok (.bipush 36, 2) := by decide +kernel
theorem dX9_putOne_38 : decode cX9_putOne 38 = .ok (.iaload, 1) := by decide +kernel
theorem dX9_putOne_39 : decode cX9_putOne 39 = .ok (.invokevirtual 237, 3) := by decide +kernel
theorem dX9_putOne_42 : decode cX9_putOne 42 = .ok (.istore_n 1, 1) := by decide +kernel
theorem dX9_putOne_43 : decode cX9_putOne 43 = .ok (.goto 174, 3) := by decide +kernel
theorem dX9_putOne_46 : decode cX9_putOne 46 = .ok (.aload_n 0, 1) := by decide +kernel
theorem dX9_putOne_47 : decode cX9_putOne 47 = .ok (.getfield 26, 3) := by decide +kernel
theorem dX9_putOne_50 : decode cX9_putOne 50 = .ok (.iconst 5, 1) := by decide +kernel
theorem dX9_putOne_51 : decode cX9_putOne 51 = .ok (.iaload, 1) := by decide +kernel
theorem dX9_putOne_52 : decode cX9_putOne 52 = .ok (.istore_n 2, 1) := by decide +kernel
theorem dX9_putOne_53 : decode cX9_putOne 53 = .ok (.aload_n 0, 1) := by decide +kernel
theorem dX9_putOne_54 : decode cX9_putOne 54 = .ok (.getfield 20, 3) := by decide +kernel
theorem dX9_putOne_57 : decode cX9_putOne 57 = .ok (.bipush 18, 2) := by decide +kernel
theorem dX9_putOne_59 : decode cX9_putOne 59 = .ok (.iload_n 2, 1) := by decide +kernel
theorem dX9_putOne_60 : decode cX9_putOne 60 = .ok (.iadd, 1) := by decide +kernel
theorem dX9_putOne_61 : decode cX9_putOne 61 = .ok (.iaload, 1) := by decide +kernel
theorem dX9_putOne_62 : decode cX9_putOne 62 = .ok (.istore_n 3, 1) := by decide +kernel
theorem dX9_putOne_63 : decode cX9_putOne 63 = .ok (.iconst 0, 1) := by decide +kernel
theorem dX9_putOne_64 : decode cX9_putOne 64 = .ok (.istore 4, 2) := by decide +kernel
theorem dX9_putOne_66 : decode cX9_putOne 66 = .ok (.iload 4, 2) := by decide +kernel
theorem dX9_putOne_68 : decode cX9_putOne 68 = .ok (.iload_n 3, 1) := by decide +kernel
theorem dX9_putOne_69 : decode cX9_putOne 69 = .ok (.if_icmp .ge 67, 3) := by decide +kernel
theorem dX9_putOne_72 : decode cX9_putOne 72 = .ok (.aload_n 0, 1) := by decide +kernel
theorem dX9_putOne_73 : decode cX9_putOne 73 = .ok (.aload_n 0, 1) := by decide +kernel
theorem dX9_putOne_74 : decode cX9_putOne 74 = .ok (.invokevirtual 240, 3) := by decide +kernel
theorem dX9_putOne_77 : decode cX9_putOne 77 = .ok (.invokevirtual 387, 3) := by decide +kernel
theorem dX9_putOne_80 : decode cX9_putOne 80 = .ok (.istore 5, 2) := by decide +kernel
theorem dX9_putOne_82 : decode cX9_putOne 82 = .ok (.iconst 0, 1) := by decide +kernel
theorem dX9_putOne_83 : decode cX9_putOne 83 = .ok (.istore 6, 2) := by decide +kernel
theorem dX9_putOne_85 : decode cX9_putOne 85 = .ok (.iload 5, 2) := by decide +kernel
theorem dX9_putOne_87 : decode cX9_putOne 87 = .ok (.aload_n 0, 1) := by decide +kernel
theorem dX9_putOne_88 : decode cX9_putOne 88 = .ok (.getfield 20, 3) := by decide +kernel
theorem dX9_putOne_91 : decode cX9_putOne 91 = .ok (.bipush 7, 2) := by decide +kernel
theorem dX9_putOne_93 : decode cX9_putOne 93 = .ok (.iload 6, 2) := by decide +kernel
theorem dX9_putOne_95 : decode cX9_putOne 95 = .ok (.iadd, 1) := by decide +kernel
theorem dX9_putOne_96 : decode cX9_putOne 96 = .ok (.iaload, 1) := by decide +kernel
theorem dX9_putOne_97 : decode cX9_putOne 97 = .ok (.if_icmp .lt 24, 3) := by decide +kernel
theorem dX9_putOne_100 : decode cX9_putOne 100 = .ok (.iload 5, 2) := by decide +kernel
theorem dX9_putOne_102 : decode cX9_putOne 102 = .ok (.aload_n 0, 1) := by decide +kernel
theorem dX9_putOne_103 : decode cX9_putOne 103 = .ok (.getfield 20, 3) := by decide +kernel
theorem dX9_putOne_106 : decode cX9_putOne 106 = .ok (.bipush 7, 2) := by decide +kernel
theorem dX9_putOne_108 : decode cX9_putOne 108 = .ok (.iload 6, 2) := by decide +kernel
theorem dX9_putOne_110 : decode cX9_putOne 110 = .ok (.iadd, 1) := by decide +kernel
theorem dX9_putOne_111 : decode cX9_putOne 111 = .ok (.iaload, 1) := by decide +kernel
theorem dX9_putOne_112 : decode cX9_putOne 112 = .ok (.isub, 1) := by decide +kernel
theorem dX9_putOne_113 : decode cX9_putOne 113 = .ok (.istore 5, 2) := by decide +kernel
theorem dX9_putOne_115 : decode cX9_putOne 115 = .ok (.iinc 6 1, 3) := by decide +kernel
theorem dX9_putOne_118 : decode cX9_putOne 118 = .ok (.goto (-33), 3) := by decide +kernel
theorem dX9_putOne_121 : decode cX9_putOne 121 = .ok (.aload_n 0, 1) := by decide +kernel
theorem dX9_putOne_122 : decode cX9_putOne 122 = .ok (.getfield 35, 3) := by decide +kernel
theorem dX9_putOne_125 : decode cX9_putOne 125 = .ok (.iload 4, 2) := by decide +kernel
theorem dX9_putOne_127 : decode cX9_putOne 127 = .ok (.iload 6, 2) := by decide +kernel
theorem dX9_putOne_129 : decode cX9_putOne 129 = .ok (.iastore, 1) := by decide +kernel
theorem dX9_putOne_130 : decode cX9_putOne 130 = .ok (.iinc 4 1, 3) := by decide +kernel
theorem dX9_putOne_133 : decode cX9_putOne 133 = .ok (.goto (-67), 3) := by decide +kernel
theorem dX9_putOne_136 : decode cX9_putOne 136 = .ok (.aload_n 0, 1) := by decide +kernel
theorem dX9_putOne_137 : decode cX9_putOne 137 = .ok (.getfield 20, 3) := by decide +kernel
theorem dX9_putOne_140 : decode cX9_putOne 140 = .ok (.bipush 24, 2) := by decide +kernel
theorem dX9_putOne_142 : decode cX9_putOne 142 = .ok (.iload_n 2, 1) := by decide +kernel
theorem dX9_putOne_143 : decode cX9_putOne 143 = .ok (.iadd, 1) := by decide +kernel
theorem dX9_putOne_144 : decode cX9_putOne 144 = .ok (.iaload, 1) := by decide +kernel
theorem dX9_putOne_145 : decode cX9_putOne 145 = .ok (.ifCond .ne 11, 3) := by decide +kernel
theorem dX9_putOne_148 : decode cX9_putOne 148 = .ok (.aload_n 0, 1) := by decide +kernel
theorem dX9_putOne_149 : decode cX9_putOne 149 = .ok (.iload_n 3, 1) := by decide +kernel
theorem dX9_putOne_150 : decode cX9_putOne 150 = .ok (.invokevirtual 298, 3) := by decide +kernel
theorem dX9_putOne_153 : decode cX9_putOne 153 = .ok (.goto 4, 3) := by decide +kernel
theorem dX9_putOne_156 : decode cX9_putOne 156 = .ok (.iconst 1, 1) := by decide +kernel
theorem dX9_putOne_157 : decode cX9_putOne 157 = .ok (.istore 4, 2) := by decide +kernel
theorem dX9_putOne_159 : decode cX9_putOne 159 = .ok (.iload 4, 2) := by decide +kernel
theorem dX9_putOne_161 : decode cX9_putOne 161 = .ok (.iconst 1, 1) := by decide +kernel
theorem dX9_putOne_162 : decode cX9_putOne 162 = .ok (.if_icmp .le 12, 3) := by decide +kernel
theorem dX9_putOne_165 : decode cX9_putOne 165 = .ok (.aload_n 0, 1) := by decide +kernel
theorem dX9_putOne_166 : decode cX9_putOne 166 = .ok (.iload 4, 2) := by decide +kernel
theorem dX9_putOne_168 : decode cX9_putOne 168 = .ok (.invokevirtual 387, 3) := by decide +kernel
theorem dX9_putOne_171 : decode cX9_putOne 171 = .ok (.goto 4, 3) := by decide +kernel
theorem dX9_putOne_174 : decode cX9_putOne 174 = .ok (.iconst 0, 1) := by decide +kernel
theorem dX9_putOne_175 : decode cX9_putOne 175 = .ok (.istore 5, 2) := by decide +kernel
theorem dX9_putOne_177 : decode cX9_putOne 177 = .ok (.aload_n 0, 1) := by decide +kernel
theorem dX9_putOne_178 : decode cX9_putOne 178 = .ok (.aload_n 0, 1) := by decide +kernel
theorem dX9_putOne_179 : decode cX9_putOne 179 = .ok (.getfield 20, 3) := by decide +kernel
theorem dX9_putOne_182 : decode cX9_putOne 182 = .ok (.bipush 24, 2) := by decide +kernel
theorem dX9_putOne_184 : decode cX9_putOne 184 = .ok (.iload_n 2, 1) := by decide +kernel
theorem dX9_putOne_185 : decode cX9_putOne 185 = .ok (.iadd, 1) := by decide +kernel
theorem dX9_putOne_186 : decode cX9_putOne 186 = .ok (.iaload, 1) := by decide +kernel
theorem dX9_putOne_187 : decode cX9_putOne 187 = .ok (.iload_n 3, 1) := by decide +kernel
theorem dX9_putOne_188 : decode cX9_putOne 188 = .ok (.aload_n 0, 1) := by decide +kernel
theorem dX9_putOne_189 : decode cX9_putOne 189 = .ok (.aload_n 0, 1) := by decide +kernel
theorem dX9_putOne_190 : decode cX9_putOne 190 = .ok (.getfield 20, 3) := by decide +kernel
theorem dX9_putOne_193 : decode cX9_putOne 193 = .ok (.bipush 24, 2) := by decide +kernel
theorem dX9_putOne_195 : decode cX9_putOne 195 = .ok (.iload_n 2, 1) := by decide +kernel
theorem dX9_putOne_196 : decode cX9_putOne 196 = .ok (.iadd, 1) := by decide +kernel
theorem dX9_putOne_197 : decode cX9_putOne 197 = .ok (.iaload, 1) := by decide +kernel
theorem dX9_putOne_198 : decode cX9_putOne 198 = .ok (.aload_n 0, 1) := by decide +kernel
theorem dX9_putOne_199 : decode cX9_putOne 199 = .ok (.getfield 20, 3) := by decide +kernel
theorem dX9_putOne_202 : decode cX9_putOne 202 = .ok (.bipush 30, 2) := by decide +kernel
theorem dX9_putOne_204 : decode cX9_putOne 204 = .ok (.iload_n 2, 1) := by decide +kernel
theorem dX9_putOne_205 : decode cX9_putOne 205 = .ok (.iadd, 1) := by decide +kernel
theorem dX9_putOne_206 : decode cX9_putOne 206 = .ok (.iaload, 1) := by decide +kernel
theorem dX9_putOne_207 : decode cX9_putOne 207 = .ok (.iload_n 3, 1) := by decide +kernel
theorem dX9_putOne_208 : decode cX9_putOne 208 = .ok (.iload 5, 2) := by decide +kernel
theorem dX9_putOne_210 : decode cX9_putOne 210 = .ok (.invokevirtual 301, 3) := by decide +kernel
theorem dX9_putOne_213 : decode cX9_putOne 213 = .ok (.invokevirtual 305, 3) := by decide +kernel
theorem dX9_putOne_216 : decode cX9_putOne 216 = .ok (.istore_n 1, 1) := by decide +kernel
theorem dX9_putOne_217 : decode cX9_putOne 217 = .ok (.iload_n 1, 1) := by decide +kernel
theorem dX9_putOne_218 : decode cX9_putOne 218 = .ok (.iconst 5, 1) := by decide +kernel
theorem dX9_putOne_219 : decode cX9_putOne 219 = .ok (.if_icmp .ge 14, 3) := by decide +kernel
theorem dX9_putOne_222 : decode cX9_putOne 222 = .ok (.aload_n 0, 1) := by decide +kernel
theorem dX9_putOne_223 : decode cX9_putOne 223 = .ok (.aload_n 0, 1) := by decide +kernel
theorem dX9_putOne_224 : decode cX9_putOne 224 = .ok (.getfield 26, 3) := by decide +kernel
theorem dX9_putOne_227 : decode cX9_putOne 227 = .ok (.bipush 6, 2) := by decide +kernel
theorem dX9_putOne_229 : decode cX9_putOne 229 = .ok (.iaload, 1) := by decide +kernel
theorem dX9_putOne_230 : decode cX9_putOne 230 = .ok (.invokevirtual 283, 3) := by decide +kernel
theorem dX9_putOne_233 : decode cX9_putOne 233 = .ok (.aload_n 0, 1) := by decide +kernel
theorem dX9_putOne_234 : decode cX9_putOne 234 = .ok (.invokevirtual 390, 3) := by decide +kernel
theorem dX9_putOne_237 : decode cX9_putOne 237 = .ok (.return_, 1) := by decide +kernel
theorem dX9_put_0 : decode cX9_put 0 = .ok (.aload_n 0, 1) := by decide +kernel
theorem dX9_put_1 : decode cX9_put 1 = .ok (.invokevirtual 150, 3) := by decide +kernel
theorem dX9_put_4 : decode cX9_put 4 = .ok (.aload_n 0, 1) := by decide +kernel
theorem dX9_put_5 : decode cX9_put 5 = .ok (.getfield 159, 3) := by decide +kernel
theorem dX9_put_8 : decode cX9_put 8 = .ok (.ifCond .ne 9, 3) := by decide +kernel
theorem dX9_put_11 : decode cX9_put 11 = .ok (.aload_n 0, 1) := by decide +kernel
theorem dX9_put_12 : decode cX9_put 12 = .ok (.iconst 1, 1) := by decide +kernel
theorem dX9_put_13 : decode cX9_put 13 = .ok (.invokevirtual 153, 3) := by decide +kernel
theorem dX9_put_16 : decode cX9_put 16 = .ok (.ireturn, 1) := by decide +kernel
theorem dX9_put_17 : decode cX9_put 17 = .ok (.iload_n 1, 1) := by decide +kernel
theorem dX9_put_18 : decode cX9_put 18 = .ok (.iconst 1, 1) := by decide +kernel
theorem dX9_put_19 : decode cX9_put 19 = .ok (.bipush 8, 2) := by decide +kernel
theorem dX9_put_21 : decode cX9_put 21 = .ok (.invokestatic 138, 3) := by decide +kernel
theorem dX9_put_24 : decode cX9_put 24 = .ok (.ifCond .ne 9, 3) := by decide +kernel
theorem dX9_put_27 : decode cX9_put 27 = .ok (.aload_n 0, 1) := by decide +kernel
theorem dX9_put_28 : decode cX9_put 28 = .ok (.iconst 2, 1) := by decide +kernel
theorem dX9_put_29 : decode cX9_put 29 = .ok (.invokevirtual 153, 3) := by decide +kernel
theorem dX9_put_32 : decode cX9_put 32 = .ok (.ireturn, 1) := by decide +kernel
theorem dX9_put_33 : decode cX9_put 33 = .ok (.aload_n 0, 1) := by decide +kernel
theorem dX9_put_34 : decode cX9_put 34 = .ok (.getfield 26, 3) := by decide +kernel
theorem dX9_put_37 : decode cX9_put 37 = .ok (.bipush 6, 2) := by decide +kernel
theorem dX9_put_39 : decode cX9_put 39 = .ok (.iaload, 1) := by decide +kernel
theorem dX9_put_40 : decode cX9_put 40 = .ok (.aload_n 0, 1) := by decide +kernel
theorem dX9_put_41 : decode cX9_put 41 = .ok (.getfield 20, 3) := by decide +kernel
theorem dX9_put_44 : decode cX9_put 44 = .ok (.iconst 1, 1) := by decide +kernel
theorem dX9_put_45 : decode cX9_put 45 = .ok (.iaload, 1) := by decide +kernel
theorem dX9_put_46 : decode cX9_put 46 = .ok (.if_icmp .ne 10, 3) := by decide +kernel
theorem dX9_put_49 : decode cX9_put 49 = .ok (.aload_n 0, 1) := by decide +kernel
theorem dX9_put_50 : decode cX9_put 50 = .ok (.bipush 6, 2) := by decide +kernel
theorem dX9_put_52 : decode cX9_put 52 = .ok (.invokevirtual 153, 3) := by decide +kernel
theorem dX9_put_55 : decode cX9_put 55 = .ok (.ireturn, 1) := by decide +kernel
theorem dX9_put_56 : decode cX9_put 56 = .ok (.iconst 0, 1) := by decide +kernel
theorem dX9_put_57 : decode cX9_put 57 = .ok (.istore_n 2, 1) := by decide +kernel
theorem dX9_put_58 : decode cX9_put 58 = .ok (.iload_n 2, 1) := by decide +kernel
theorem dX9_put_59 : decode cX9_put 59 = .ok (.iload_n 1, 1) := by decide +kernel
theorem dX9_put_60 : decode cX9_put 60 = .ok (.if_icmp .ge 29, 3) := by decide +kernel
theorem dX9_put_63 : decode cX9_put 63 = .ok (.aload_n 0, 1) := by decide +kernel
theorem dX9_put_64 : decode cX9_put 64 = .ok (.getfield 26, 3) := by decide +kernel
theorem dX9_put_67 : decode cX9_put 67 = .ok (.bipush 6, 2) := by decide +kernel
theorem dX9_put_69 : decode cX9_put 69 = .ok (.iaload, 1) := by decide +kernel
theorem dX9_put_70 : decode cX9_put 70 = .ok (.aload_n 0, 1) := by decide +kernel
theorem dX9_put_71 : decode cX9_put 71 = .ok (.getfield 20, 3) := by decide +kernel
theorem dX9_put_74 : decode cX9_put 74 = .ok (.iconst 1, 1) := by decide +kernel
theorem dX9_put_75 : decode cX9_put 75 = .ok (.iaload, 1) := by decide +kernel
theorem dX9_put_76 : decode cX9_put 76 = .ok (.if_icmp .ge 13, 3) := by decide +kernel
theorem dX9_put_79 : decode cX9_put 79 = .ok (.aload_n 0, 1) := by decide +kernel
theorem dX9_put_80 : decode cX9_put 80 = .ok (.invokevirtual 393, 3) := by decide +kernel
theorem dX9_put_83 : decode cX9_put 83 = .ok (.iinc 2 1, 3) := by decide +kernel
theorem dX9_put_86 : decode cX9_put 86 = .ok (.goto (-28), 3) := by decide +kernel
theorem dX9_put_89 : decode cX9_put 89 = .ok (.iload_n 2, 1) := by decide +kernel
theorem dX9_put_90 : decode cX9_put 90 = .ok (.ireturn, 1) := by decide +kernel
theorem dX9_layGoes_0 : decode cX9_layGoes 0 = .ok (.aload_n 0, 1) := by decide +kernel
theorem dX9_layGoes_1 : decode cX9_layGoes 1 = .ok (.getfield 26, 3) := by decide +kernel
theorem dX9_layGoes_4 : decode cX9_layGoes 4 = .ok (.iconst 5, 1) := by decide +kernel
theorem dX9_layGoes_5 : decode cX9_layGoes 5 = .ok (.iaload, 1) := by decide +kernel
theorem dX9_layGoes_6 : decode cX9_layGoes 6 = .ok (.istore_n 2, 1) := by decide +kernel
theorem dX9_layGoes_7 : decode cX9_layGoes 7 = .ok (.aload_n 0, 1) := by decide +kernel
theorem dX9_layGoes_8 : decode cX9_layGoes 8 = .ok (.getfield 20, 3) := by decide +kernel
theorem dX9_layGoes_11 : decode cX9_layGoes 11 = .ok (.bipush 18, 2) := by decide +kernel
theorem dX9_layGoes_13 : decode cX9_layGoes 13 = .ok (.iload_n 2, 1) := by decide +kernel
theorem dX9_layGoes_14 : decode cX9_layGoes 14 = .ok (.iadd, 1) := by decide +kernel
theorem dX9_layGoes_15 : decode cX9_layGoes 15 = .ok (.iaload, 1) := by decide +kernel
theorem dX9_layGoes_16 : decode cX9_layGoes 16 = .ok (.istore_n 3, 1) := by decide +kernel
theorem dX9_layGoes_17 : decode cX9_layGoes 17 = .ok (.aload_n 0, 1) := by decide +kernel
theorem dX9_layGoes_18 : decode cX9_layGoes 18 = .ok (.lconst 0, 1) := by decide +kernel
theorem dX9_layGoes_19 : decode cX9_layGoes 19 = .ok (.putfield 396, 3) := by decide +kernel
theorem dX9_layGoes_22 : decode cX9_layGoes 22 = .ok (.aload_n 0, 1) := by decide +kernel
theorem dX9_layGoes_23 : decode cX9_layGoes 23 = .ok (.lconst 1, 1) := by decide +kernel
theorem dX9_layGoes_24 : decode cX9_layGoes 24 = .ok (.putfield 399, 3) := by decide +kernel
theorem dX9_layGoes_27 : decode cX9_layGoes 27 = .ok (.aload_n 0, 1) := by decide +kernel
theorem dX9_layGoes_28 : decode cX9_layGoes 28 = .ok (.bipush (-5), 2) := by decide +kernel
theorem dX9_layGoes_30 : decode cX9_layGoes 30 = .ok (.putfield 402, 3) := by decide +kernel
theorem dX9_layGoes_33 : decode cX9_layGoes 33 = .ok (.aload_n 0, 1) := by decide +kernel
theorem dX9_layGoes_34 : decode cX9_layGoes 34 = .ok (.aload_n 0, 1) := by decide +kernel
theorem dX9_layGoes_35 : decode cX9_layGoes 35 = .ok (.getfield 26, 3) := by decide +kernel
theorem dX9_layGoes_38 : decode cX9_layGoes 38 = .ok (.bipush 6, 2) := by decide +kernel
theorem dX9_layGoes_40 : decode cX9_layGoes 40 = .ok (.iaload, 1) := by decide +kernel
theorem dX9_layGoes_41 : decode cX9_layGoes 41 = .ok (.iconst 1, 1) := by decide +kernel
theorem dX9_layGoes_42 : decode cX9_layGoes 42 = .ok (.iadd, 1) := by decide +kernel
theorem dX9_layGoes_43 : decode cX9_layGoes 43 = .ok (.invokevirtual 263, 3) := by decide +kernel
theorem dX9_layGoes_46 : decode cX9_layGoes 46 = .ok (.ifCond .eq 40, 3) := by decide +kernel
theorem dX9_layGoes_49 : decode cX9_layGoes 49 = .ok (.aload_n 0, 1) := by decide +kernel
theorem dX9_layGoes_50 : decode cX9_layGoes 50 = .ok (.invokevirtual 384, 3) := by decide +kernel
theorem dX9_layGoes_53 : decode cX9_layGoes 53 = .ok (.aload_n 0, 1) := by decide +kernel
theorem dX9_layGoes_54 : decode cX9_layGoes 54 = .ok (.aload_n 0, 1) := by decide +kernel
theorem dX9_layGoes_55 : decode cX9_layGoes 55 = .ok (.aload_n 0, 1) := by decide +kernel
theorem dX9_layGoes_56 : decode cX9_layGoes 56 = .ok (.getfield 20, 3) := by decide +kernel
theorem dX9_layGoes_59 : decode cX9_layGoes 59 = .ok (.bipush 36, 2) := by decide +kernel
theorem dX9_layGoes_61 : decode cX9_layGoes 61 = .ok (.iaload, 1) := by decide +kernel
theorem dX9_layGoes_62 : decode cX9_layGoes 62 = .ok (.invokevirtual 237, 3) := by decide +kernel
theorem dX9_layGoes_65 : decode cX9_layGoes 65 = .ok (.iload_n 1, 1) := by decide +kernel
theorem dX9_layGoes_66 : decode cX9_layGoes 66 = .ok (.if_icmp .ne 7, 3) := by decide +kernel
theorem dX9_layGoes_69 : decode cX9_layGoes 69 = .ok (.lconst 1, 1) := by decide +kernel
theorem dX9_layGoes_70 : decode cX9_layGoes 70 = .ok (.goto 4, 3) := by decide +kernel
theorem dX9_layGoes_73 : decode cX9_layGoes 73 = .ok (.lconst 0, 1) := by decide +kernel
theorem dX9_layGoes_74 : decode cX9_layGoes 74 = .ok (.putfield 396, 3) := by decide +kernel
theorem dX9_layGoes_77 : decode cX9_layGoes 77 = .ok (.aload_n 0, 1) := by decide +kernel
theorem dX9_layGoes_78 : decode cX9_layGoes 78 = .ok (.aload_n 0, 1) := by decide +kernel
theorem dX9_layGoes_79 : decode cX9_layGoes 79 = .ok (.getfield 228, 3) := by decide +kernel
theorem dX9_layGoes_82 : decode cX9_layGoes 82 = .ok (.putfield 402, 3) := by decide +kernel
theorem dX9_layGoes_85 : decode cX9_layGoes 85 = .ok (.return_, 1) := by decide +kernel
theorem dX9_layGoes_86 : decode cX9_layGoes 86 = .ok (.aload_n 0, 1) := by decide +kernel
theorem dX9_layGoes_87 : decode cX9_layGoes 87 = .ok (.aload_n 0, 1) := by decide +kernel
theorem dX9_layGoes_88 : decode cX9_layGoes 88 = .ok (.aload_n 0, 1) := by decide +kernel
theorem dX9_layGoes_89 : decode cX9_layGoes 89 = .ok (.getfield 20, 3) := by decide +kernel
theorem dX9_layGoes_92 : decode cX9_layGoes 92 = .ok (.bipush 24, 2) := by decide +kernel
theorem dX9_layGoes_94 : decode cX9_layGoes 94 = .ok (.iload_n 2, 1) := by decide +kernel
theorem dX9_layGoes_95 : decode cX9_layGoes 95 = .ok (.iadd, 1) := by decide +kernel
theorem dX9_layGoes_96 : decode cX9_layGoes 96 = .ok (.iaload, 1) := by decide +kernel
theorem dX9_layGoes_97 : decode cX9_layGoes 97 = .ok (.iload_n 3, 1) := by decide +kernel
theorem dX9_layGoes_98 : decode cX9_layGoes 98 = .ok (.invokevirtual 259, 3) := by decide +kernel
theorem dX9_layGoes_101 : decode cX9_layGoes 101 = .ok (.putfield 399, 3) := by decide +kernel
theorem dX9_layGoes_104 : decode cX9_layGoes 104 = .ok (.aload_n 0, 1) := by decide +kernel
theorem dX9_layGoes_105 : decode cX9_layGoes 105 = .ok (.iload_n 3, 1) := by decide +kernel
theorem dX9_layGoes_106 : decode cX9_layGoes 106 = .ok (.invokevirtual 292, 3) := by decide +kernel
theorem dX9_layGoes_109 : decode cX9_layGoes 109 = .ok (.istore 4, 2) := by decide +kernel
theorem dX9_layGoes_111 : decode cX9_layGoes 111 = .ok (.iconst 0, 1) := by decide +kernel
theorem dX9_layGoes_112 : decode cX9_layGoes 112 = .ok (.istore 5, 2) := by decide +kernel
theorem dX9_layGoes_114 : decode cX9_layGoes 114 = .ok (.iload 5, 2) := by decide +kernel
theorem dX9_layGoes_116 : decode cX9_layGoes 116 = .ok (.iload 4, 2) := by decide +kernel
theorem dX9_layGoes_118 : decode cX9_layGoes 118 = .ok (.if_icmp .ge 181, 3) := by decide +kernel
theorem dX9_layGoes_121 : decode cX9_layGoes 121 = .ok (.aload_n 0, 1) := by decide +kernel
theorem dX9_layGoes_122 : decode cX9_layGoes 122 = .ok (.invokevirtual 384, 3) := by decide +kernel
theorem dX9_layGoes_125 : decode cX9_layGoes 125 = .ok (.aload_n 0, 1) := by decide +kernel
theorem dX9_layGoes_126 : decode cX9_layGoes 126 = .ok (.iload 5, 2) := by decide +kernel
theorem dX9_layGoes_128 : decode cX9_layGoes 128 = .ok (.iload_n 3, 1) := by decide +kernel
theorem dX9_layGoes_129 : decode cX9_layGoes 129 = .ok (.invokevirtual 295, 3) := by decide +kernel
theorem dX9_layGoes_132 : decode cX9_layGoes 132 = .ok (.lstore 6, 2) := by decide +kernel
theorem dX9_layGoes_134 : decode cX9_layGoes 134 = .ok (.aload_n 0, 1) := by decide +kernel
theorem dX9_layGoes_135 : decode cX9_layGoes 135 = .ok (.getfield 20, 3) := by decide +kernel
theorem dX9_layGoes_138 : decode cX9_layGoes 138 = .ok (.bipush 24, 2) := by decide +kernel
theorem dX9_layGoes_140 : decode cX9_layGoes 140 = .ok (.iload_n 2, 1) := by decide +kernel
theorem dX9_layGoes_141 : decode cX9_layGoes 141 = .ok (.iadd, 1) := by decide +kernel
theorem dX9_layGoes_142 : decode cX9_layGoes 142 = .ok (.iaload, 1) := by decide +kernel
theorem dX9_layGoes_143 : decode cX9_layGoes 143 = .ok (.ifCond .ne 11, 3) := by decide +kernel
theorem dX9_layGoes_146 : decode cX9_layGoes 146 = .ok (.aload_n 0, 1) := by decide +kernel
theorem dX9_layGoes_147 : decode cX9_layGoes 147 = .ok (.iload_n 3, 1) := by decide +kernel
theorem dX9_layGoes_148 : decode cX9_layGoes 148 = .ok (.invokevirtual 298, 3) := by decide +kernel
theorem dX9_layGoes_151 : decode cX9_layGoes 151 = .ok (.goto 4, 3) := by decide +kernel
theorem dX9_layGoes_154 : decode cX9_layGoes 154 = .ok (.iconst 1, 1) := by decide +kernel
theorem dX9_layGoes_155 : decode cX9_layGoes 155 = .ok (.istore 8, 2) := by decide +kernel
theorem dX9_layGoes_157 : decode cX9_layGoes 157 = .ok (.iconst 0, 1) := by decide +kernel
theorem dX9_layGoes_158 : decode cX9_layGoes 158 = .ok (.istore 9, 2) := by decide +kernel
theorem dX9_layGoes_160 : decode cX9_layGoes 160 = .ok (.iload 9, 2) := by decide +kernel
theorem dX9_layGoes_162 : decode cX9_layGoes 162 = .ok (.iload 8, 2) := by decide +kernel
theorem dX9_layGoes_164 : decode cX9_layGoes 164 = .ok (.if_icmp .ge 129, 3) := by decide +kernel
theorem dX9_layGoes_167 : decode cX9_layGoes 167 = .ok (.aload_n 0, 1) := by decide +kernel
theorem dX9_layGoes_168 : decode cX9_layGoes 168 = .ok (.invokevirtual 384, 3) := by decide +kernel
theorem dX9_layGoes_171 : decode cX9_layGoes 171 = .ok (.aload_n 0, 1) := by decide +kernel
theorem dX9_layGoes_172 : decode cX9_layGoes 172 = .ok (.aload_n 0, 1) := by decide +kernel
theorem dX9_layGoes_173 : decode cX9_layGoes 173 = .ok (.getfield 20, 3) := by decide +kernel
theorem dX9_layGoes_176 : decode cX9_layGoes 176 = .ok (.bipush 24, 2) := by decide +kernel
theorem dX9_layGoes_178 : decode cX9_layGoes 178 = .ok (.iload_n 2, 1) := by decide +kernel
theorem dX9_layGoes_179 : decode cX9_layGoes 179 = .ok (.iadd, 1) := by decide +kernel
theorem dX9_layGoes_180 : decode cX9_layGoes 180 = .ok (.iaload, 1) := by decide +kernel
theorem dX9_layGoes_181 : decode cX9_layGoes 181 = .ok (.iload_n 3, 1) := by decide +kernel
theorem dX9_layGoes_182 : decode cX9_layGoes 182 = .ok (.aload_n 0, 1) := by decide +kernel
theorem dX9_layGoes_183 : decode cX9_layGoes 183 = .ok (.aload_n 0, 1) := by decide +kernel
theorem dX9_layGoes_184 : decode cX9_layGoes 184 = .ok (.getfield 20, 3) := by decide +kernel
theorem dX9_layGoes_187 : decode cX9_layGoes 187 = .ok (.bipush 24, 2) := by decide +kernel
theorem dX9_layGoes_189 : decode cX9_layGoes 189 = .ok (.iload_n 2, 1) := by decide +kernel
theorem dX9_layGoes_190 : decode cX9_layGoes 190 = .ok (.iadd, 1) := by decide +kernel
theorem dX9_layGoes_191 : decode cX9_layGoes 191 = .ok (.iaload, 1) := by decide +kernel
theorem dX9_layGoes_192 : decode cX9_layGoes 192 = .ok (.aload_n 0, 1) := by decide +kernel
theorem dX9_layGoes_193 : decode cX9_layGoes 193 = .ok (.getfield 20, 3) := by decide +kernel
theorem dX9_layGoes_196 : decode cX9_layGoes 196 = .ok (.bipush 30, 2) := by decide +kernel
theorem dX9_layGoes_198 : decode cX9_layGoes 198 = .ok (.iload_n 2, 1) := by decide +kernel
theorem dX9_layGoes_199 : decode cX9_layGoes 199 = .ok (.iadd, 1) := by decide +kernel
theorem dX9_layGoes_200 : decode cX9_layGoes 200 = .ok (.iaload, 1) := by decide +kernel
theorem dX9_layGoes_201 : decode cX9_layGoes 201 = .ok (.iload_n 3, 1) := by decide +kernel
theorem dX9_layGoes_202 : decode cX9_layGoes 202 = .ok (.iload 9, 2) := by decide +kernel
theorem dX9_layGoes_204 : decode cX9_layGoes 204 = .ok (.invokevirtual 301, 3) := by decide +kernel
theorem dX9_layGoes_207 : decode cX9_layGoes 207 = .ok (.invokevirtual 305, 3) := by decide +kernel
theorem dX9_layGoes_210 : decode cX9_layGoes 210 = .ok (.iload_n 1, 1) := by decide +kernel
theorem dX9_layGoes_211 : decode cX9_layGoes 211 = .ok (.if_icmp .eq 6, 3) := by decide +kernel
theorem dX9_layGoes_214 : decode cX9_layGoes 214 = .ok (.goto 73, 3) := by decide +kernel
theorem dX9_layGoes_217 : decode cX9_layGoes 217 = .ok (.aload_n 0, 1) := by decide +kernel
theorem dX9_layGoes_218 : decode cX9_layGoes 218 = .ok (.dup, 1) := by decide +kernel
theorem dX9_layGoes_219 : decode cX9_layGoes 219 = .ok (.getfield 396, 3) := by decide +kernel
theorem dX9_layGoes_222 : decode cX9_layGoes 222 = .ok (.aload_n 0, 1) := by decide +kernel
theorem dX9_layGoes_223 : decode cX9_layGoes 223 = .ok (.getfield 20, 3) := by decide +kernel
theorem dX9_layGoes_226 : decode cX9_layGoes 226 = .ok (.bipush 24, 2) := by decide +kernel
theorem dX9_layGoes_228 : decode cX9_layGoes 228 = .ok (.iload_n 2, 1) := by decide +kernel
theorem dX9_layGoes_229 : decode cX9_layGoes 229 = .ok (.iadd, 1) := by decide +kernel
theorem dX9_layGoes_230 : decode cX9_layGoes 230 = .ok (.iaload, 1) := by decide +kernel
theorem dX9_layGoes_231 : decode cX9_layGoes 231 = .ok (.ifCond .ne 17, 3) := by decide +kernel
theorem dX9_layGoes_234 : decode cX9_layGoes 234 = .ok (.lload 6, 2) := by decide +kernel
theorem dX9_layGoes_236 : decode cX9_layGoes 236 = .ok (.iload_n 3, 1) := by decide +kernel
theorem dX9_layGoes_237 : decode cX9_layGoes 237 = .ok (.invokestatic 243, 3) := by decide +kernel
theorem dX9_layGoes_240 : decode cX9_layGoes 240 = .ok (.iload 8, 2) := by decide +kernel
theorem dX9_layGoes_242 : decode cX9_layGoes 242 = .ok (.i2l, 1) := by decide +kernel
theorem dX9_layGoes_243 : decode cX9_layGoes 243 = .ok (.ldiv, 1) := by decide +kernel
theorem dX9_layGoes_244 : decode cX9_layGoes 244 = .ok (.lmul, 1) := by decide +kernel
theorem dX9_layGoes_245 : decode cX9_layGoes 245 = .ok (.goto 5, 3) := by decide +kernel
theorem dX9_layGoes_248 : decode cX9_layGoes 248 = .ok (.lload 6, 2) := by decide +kernel
theorem dX9_layGoes_250 : decode cX9_layGoes 250 = .ok (.ladd, 1) := by decide +kernel
theorem dX9_layGoes_251 : decode cX9_layGoes 251 = .ok (.putfield 396, 3) := by decide +kernel
theorem dX9_layGoes_254 : decode cX9_layGoes 254 = .ok (.aload_n 0, 1) := by decide +kernel
theorem dX9_layGoes_255 : decode cX9_layGoes 255 = .ok (.aload_n 0, 1) := by decide +kernel
theorem dX9_layGoes_256 : decode cX9_layGoes 256 = .ok (.getfield 402, 3) := by decide +kernel
theorem dX9_layGoes_259 : decode cX9_layGoes 259 = .ok (.bipush (-5), 2) := by decide +kernel
theorem dX9_layGoes_261 : decode cX9_layGoes 261 = .ok (.if_icmp .eq 14, 3) := by decide +kernel
theorem dX9_layGoes_264 : decode cX9_layGoes 264 = .ok (.aload_n 0, 1) := by decide +kernel
theorem dX9_layGoes_265 : decode cX9_layGoes 265 = .ok (.getfield 402, 3) := by decide +kernel
theorem dX9_layGoes_268 : decode cX9_layGoes 268 = .ok (.aload_n 0, 1) := by decide +kernel
theorem dX9_layGoes_269 : decode cX9_layGoes 269 = .ok (.getfield 228, 3) := by decide +kernel
theorem dX9_layGoes_272 : decode cX9_layGoes 272 = .ok (.if_icmp .ne 10, 3) := by decide +kernel
theorem dX9_layGoes_275 : decode cX9_layGoes 275 = .ok (.aload_n 0, 1) := by decide +kernel
theorem dX9_layGoes_276 : decode cX9_layGoes 276 = .ok (.getfield 228, 3) := by decide +kernel
theorem dX9_layGoes_279 : decode cX9_layGoes 279 = .ok (.goto 5, 3) := by decide +kernel
theorem dX9_layGoes_282 : decode cX9_layGoes 282 = .ok (.bipush (-6), 2) := by decide +kernel
theorem dX9_layGoes_284 : decode cX9_layGoes 284 = .ok (.putfield 402, 3) := by decide +kernel
theorem dX9_layGoes_287 : decode cX9_layGoes 287 = .ok (.iinc 9 1, 3) := by decide +kernel
theorem dX9_layGoes_290 : decode cX9_layGoes 290 = .ok (.goto (-130), 3) := by decide +kernel
theorem dX9_layGoes_293 : decode cX9_layGoes 293 = .ok (.iinc 5 1, 3) := by decide +kernel
theorem dX9_layGoes_296 : decode cX9_layGoes 296 = .ok (.goto (-182), 3) := by decide +kernel
theorem dX9_layGoes_299 : decode cX9_layGoes 299 = .ok (.return_, 1) := by decide +kernel
theorem dX9_goes_0 : decode cX9_goes 0 = .ok (.aload_n 0, 1) := by decide +kernel
theorem dX9_goes_1 : decode cX9_goes 1 = .ok (.invokevirtual 150, 3) := by decide +kernel
theorem dX9_goes_4 : decode cX9_goes 4 = .ok (.aload_n 0, 1) := by decide +kernel
theorem dX9_goes_5 : decode cX9_goes 5 = .ok (.iload_n 1, 1) := by decide +kernel
theorem dX9_goes_6 : decode cX9_goes 6 = .ok (.invokevirtual 341, 3) := by decide +kernel
theorem dX9_goes_9 : decode cX9_goes 9 = .ok (.ifCond .ne 10, 3) := by decide +kernel
theorem dX9_goes_12 : decode cX9_goes 12 = .ok (.aload_n 0, 1) := by decide +kernel
theorem dX9_goes_13 : decode cX9_goes 13 = .ok (.iconst 1, 1) := by decide +kernel
theorem dX9_goes_14 : decode cX9_goes 14 = .ok (.invokevirtual 153, 3) := by decide +kernel
theorem dX9_goes_17 : decode cX9_goes 17 = .ok (.i2l, 1) := by decide +kernel
theorem dX9_goes_18 : decode cX9_goes 18 = .ok (.lreturn, 1) := by decide +kernel
theorem dX9_goes_19 : decode cX9_goes 19 = .ok (.aload_n 0, 1) := by decide +kernel
theorem dX9_goes_20 : decode cX9_goes 20 = .ok (.getfield 26, 3) := by decide +kernel
theorem dX9_goes_23 : decode cX9_goes 23 = .ok (.bipush 6, 2) := by decide +kernel
theorem dX9_goes_25 : decode cX9_goes 25 = .ok (.iaload, 1) := by decide +kernel
theorem dX9_goes_26 : decode cX9_goes 26 = .ok (.aload_n 0, 1) := by decide +kernel
theorem dX9_goes_27 : decode cX9_goes 27 = .ok (.getfield 20, 3) := by decide +kernel
theorem dX9_goes_30 : decode cX9_goes 30 = .ok (.iconst 1, 1) := by decide +kernel
theorem dX9_goes_31 : decode cX9_goes 31 = .ok (.iaload, 1) := by decide +kernel
theorem dX9_goes_32 : decode cX9_goes 32 = .ok (.if_icmp .ne 11, 3) := by decide +kernel
theorem dX9_goes_35 : decode cX9_goes 35 = .ok (.aload_n 0, 1) := by decide +kernel
theorem dX9_goes_36 : decode cX9_goes 36 = .ok (.bipush 6, 2) := by decide +kernel
theorem dX9_goes_38 : decode cX9_goes 38 = .ok (.invokevirtual 153, 3) := by decide +kernel
theorem dX9_goes_41 : decode cX9_goes 41 = .ok (.i2l, 1) := by decide +kernel
theorem dX9_goes_42 : decode cX9_goes 42 = .ok (.lreturn, 1) := by decide +kernel
theorem dX9_goes_43 : decode cX9_goes 43 = .ok (.aload_n 0, 1) := by decide +kernel
theorem dX9_goes_44 : decode cX9_goes 44 = .ok (.iload_n 1, 1) := by decide +kernel
theorem dX9_goes_45 : decode cX9_goes 45 = .ok (.invokevirtual 405, 3) := by decide +kernel
theorem dX9_goes_48 : decode cX9_goes 48 = .ok (.aload_n 0, 1) := by decide +kernel
theorem dX9_goes_49 : decode cX9_goes 49 = .ok (.getfield 396, 3) := by decide +kernel
theorem dX9_goes_52 : decode cX9_goes 52 = .ok (.aload_n 0, 1) := by decide +kernel
theorem dX9_goes_53 : decode cX9_goes 53 = .ok (.getfield 399, 3) := by decide +kernel
theorem dX9_goes_56 : decode cX9_goes 56 = .ok (.iload_n 2, 1) := by decide +kernel
theorem dX9_goes_57 : decode cX9_goes 57 = .ok (.invokestatic 334, 3) := by decide +kernel
theorem dX9_goes_60 : decode cX9_goes 60 = .ok (.lreturn, 1) := by decide +kernel
theorem dX9_place_0 : decode cX9_place 0 = .ok (.aload_n 0, 1) := by decide +kernel
theorem dX9_place_1 : decode cX9_place 1 = .ok (.invokevirtual 150, 3) := by decide +kernel
theorem dX9_place_4 : decode cX9_place 4 = .ok (.aload_n 0, 1) := by decide +kernel
theorem dX9_place_5 : decode cX9_place 5 = .ok (.iload_n 1, 1) := by decide +kernel
theorem dX9_place_6 : decode cX9_place 6 = .ok (.invokevirtual 341, 3) := by decide +kernel
theorem dX9_place_9 : decode cX9_place 9 = .ok (.ifCond .ne 9, 3) := by decide +kernel
theorem dX9_place_12 : decode cX9_place 12 = .ok (.aload_n 0, 1) := by decide +kernel
theorem dX9_place_13 : decode cX9_place 13 = .ok (.iconst 1, 1) := by decide +kernel
theorem dX9_place_14 : decode cX9_place 14 = .ok (.invokevirtual 153, 3) := by decide +kernel
theorem dX9_place_17 : decode cX9_place 17 = .ok (.ireturn, 1) := by decide +kernel
theorem dX9_place_18 : decode cX9_place 18 = .ok (.aload_n 0, 1) := by decide +kernel
theorem dX9_place_19 : decode cX9_place 19 = .ok (.getfield 26, 3) := by decide +kernel
theorem dX9_place_22 : decode cX9_place 22 = .ok (.bipush 6, 2) := by decide +kernel
theorem dX9_place_24 : decode cX9_place 24 = .ok (.iaload, 1) := by decide +kernel
theorem dX9_place_25 : decode cX9_place 25 = .ok (.aload_n 0, 1) := by decide +kernel
theorem dX9_place_26 : decode cX9_place 26 = .ok (.getfield 20, 3) := by decide +kernel
theorem dX9_place_29 : decode cX9_place 29 = .ok (.iconst 1, 1) := by decide +kernel
theorem dX9_place_30 : decode cX9_place 30 = .ok (.iaload, 1) := by decide +kernel
theorem dX9_place_31 : decode cX9_place 31 = .ok (.if_icmp .ne 10, 3) := by decide +kernel
theorem dX9_place_34 : decode cX9_place 34 = .ok (.aload_n 0, 1) := by decide +kernel
theorem dX9_place_35 : decode cX9_place 35 = .ok (.bipush 6, 2) := by decide +kernel
theorem dX9_place_37 : decode cX9_place 37 = .ok (.invokevirtual 153, 3) := by decide +kernel
theorem dX9_place_40 : decode cX9_place 40 = .ok (.ireturn, 1) := by decide +kernel
theorem dX9_place_41 : decode cX9_place 41 = .ok (.aload_n 0, 1) := by decide +kernel
theorem dX9_place_42 : decode cX9_place 42 = .ok (.iload_n 1, 1) := by decide +kernel
theorem dX9_place_43 : decode cX9_place 43 = .ok (.invokevirtual 405, 3) := by decide +kernel
theorem dX9_place_46 : decode cX9_place 46 = .ok (.aload_n 0, 1) := by decide +kernel
theorem dX9_place_47 : decode cX9_place 47 = .ok (.getfield 396, 3) := by decide +kernel
theorem dX9_place_50 : decode cX9_place 50 = .ok (.lconst 0, 1) := by decide +kernel
theorem dX9_place_51 : decode cX9_place 51 = .ok (.lcmp, 1) := by decide +kernel
theorem dX9_place_52 : decode cX9_place 52 = .ok (.ifCond .eq 12, 3) := by decide +kernel
theorem dX9_place_55 : decode cX9_place 55 = .ok (.aload_n 0, 1) := by decide +kernel
theorem dX9_place_56 : decode cX9_place 56 = .ok (.getfield 402, 3) := by decide +kernel
theorem dX9_place_59 : decode cX9_place 59 = .ok (.bipush (-6), 2) := by decide +kernel
theorem dX9_place_61 : decode cX9_place 61 = .ok (.if_icmp .ne 9, 3) := by decide +kernel
theorem dX9_place_64 : decode cX9_place 64 = .ok (.aload_n 0, 1) := by decide +kernel
theorem dX9_place_65 : decode cX9_place 65 = .ok (.iconst 5, 1) := by decide +kernel
theorem dX9_place_66 : decode cX9_place 66 = .ok (.invokevirtual 153, 3) := by decide +kernel
theorem dX9_place_69 : decode cX9_place 69 = .ok (.ireturn, 1) := by decide +kernel
theorem dX9_place_70 : decode cX9_place 70 = .ok (.aload_n 0, 1) := by decide +kernel
theorem dX9_place_71 : decode cX9_place 71 = .ok (.invokevirtual 384, 3) := by decide +kernel
theorem dX9_place_74 : decode cX9_place 74 = .ok (.aload_n 0, 1) := by decide +kernel
theorem dX9_place_75 : decode cX9_place 75 = .ok (.getfield 32, 3) := by decide +kernel
theorem dX9_place_78 : decode cX9_place 78 = .ok (.iload_n 1, 1) := by decide +kernel
theorem dX9_place_79 : decode cX9_place 79 = .ok (.dup2, 1) := by decide +kernel
theorem dX9_place_80 : decode cX9_place 80 = .ok (.iaload, 1) := by decide +kernel
theorem dX9_place_81 : decode cX9_place 81 = .ok (.iconst 1, 1) := by decide +kernel
theorem dX9_place_82 : decode cX9_place 82 = .ok (.iadd, 1) := by decide +kernel
theorem dX9_place_83 : decode cX9_place 83 = .ok (.iastore, 1) := by decide +kernel
theorem dX9_place_84 : decode cX9_place 84 = .ok (.aload_n 0, 1) := by decide +kernel
theorem dX9_place_85 : decode cX9_place 85 = .ok (.aload_n 0, 1) := by decide +kernel
theorem dX9_place_86 : decode cX9_place 86 = .ok (.getfield 402, 3) := by decide +kernel
theorem dX9_place_89 : decode cX9_place 89 = .ok (.putfield 228, 3) := by decide +kernel
theorem dX9_place_92 : decode cX9_place 92 = .ok (.aload_n 0, 1) := by decide +kernel
theorem dX9_place_93 : decode cX9_place 93 = .ok (.getfield 26, 3) := by decide +kernel
theorem dX9_place_96 : decode cX9_place 96 = .ok (.bipush 6, 2) := by decide +kernel
theorem dX9_place_98 : decode cX9_place 98 = .ok (.dup2, 1) := by decide +kernel
theorem dX9_place_99 : decode cX9_place 99 = .ok (.iaload, 1) := by decide +kernel
theorem dX9_place_100 : decode cX9_place 100 = .ok (.iconst 1, 1) := by decide +kernel
theorem dX9_place_101 : decode cX9_place 101 = .ok (.iadd, 1) := by decide +kernel
theorem dX9_place_102 : decode cX9_place 102 = .ok (.iastore, 1) := by decide +kernel
theorem dX9_place_103 : decode cX9_place 103 = .ok (.aload_n 0, 1) := by decide +kernel
theorem dX9_place_104 : decode cX9_place 104 = .ok (.aload_n 0, 1) := by decide +kernel
theorem dX9_place_105 : decode cX9_place 105 = .ok (.getfield 26, 3) := by decide +kernel
theorem dX9_place_108 : decode cX9_place 108 = .ok (.bipush 6, 2) := by decide +kernel
theorem dX9_place_110 : decode cX9_place 110 = .ok (.iaload, 1) := by decide +kernel
theorem dX9_place_111 : decode cX9_place 111 = .ok (.invokevirtual 283, 3) := by decide +kernel
theorem dX9_place_114 : decode cX9_place 114 = .ok (.aload_n 0, 1) := by decide +kernel
theorem dX9_place_115 : decode cX9_place 115 = .ok (.invokevirtual 390, 3) := by decide +kernel
theorem dX9_place_118 : decode cX9_place 118 = .ok (.aload_n 0, 1) := by decide +kernel
theorem dX9_place_119 : decode cX9_place 119 = .ok (.getfield 26, 3) := by decide +kernel
theorem dX9_place_122 : decode cX9_place 122 = .ok (.iload_n 1, 1) := by decide +kernel
theorem dX9_place_123 : decode cX9_place 123 = .ok (.iaload, 1) := by decide +kernel
theorem dX9_place_124 : decode cX9_place 124 = .ok (.ireturn, 1) := by decide +kernel
theorem dX9_box_0 : decode cX9_box 0 = .ok (.aload_n 0, 1) := by decide +kernel
theorem dX9_box_1 : decode cX9_box 1 = .ok (.invokevirtual 150, 3) := by decide +kernel
theorem dX9_box_4 : decode cX9_box 4 = .ok (.aload_n 0, 1) := by decide +kernel
theorem dX9_box_5 : decode cX9_box 5 = .ok (.iload_n 1, 1) := by decide +kernel
theorem dX9_box_6 : decode cX9_box 6 = .ok (.invokevirtual 341, 3) := by decide +kernel
theorem dX9_box_9 : decode cX9_box 9 = .ok (.ifCond .eq 12, 3) := by decide +kernel
theorem dX9_box_12 : decode cX9_box 12 = .ok (.aload_n 0, 1) := by decide +kernel
theorem dX9_box_13 : decode cX9_box 13 = .ok (.getfield 26, 3) := by decide +kernel
theorem dX9_box_16 : decode cX9_box 16 = .ok (.iload_n 1, 1) := by decide +kernel
theorem dX9_box_17 : decode cX9_box 17 = .ok (.iaload, 1) := by decide +kernel
theorem dX9_box_18 : decode cX9_box 18 = .ok (.goto 8, 3) := by decide +kernel
theorem dX9_box_21 : decode cX9_box 21 = .ok (.aload_n 0, 1) := by decide +kernel
theorem dX9_box_22 : decode cX9_box 22 = .ok (.iconst 1, 1) := by decide +kernel
theorem dX9_box_23 : decode cX9_box 23 = .ok (.invokevirtual 153, 3) := by decide +kernel
theorem dX9_box_26 : decode cX9_box 26 = .ok (.ireturn, 1) := by decide +kernel
theorem dX9_recall_0 : decode cX9_recall 0 = .ok (.aload_n 0, 1) := by decide +kernel
theorem dX9_recall_1 : decode cX9_recall 1 = .ok (.invokevirtual 150, 3) := by decide +kernel
theorem dX9_recall_4 : decode cX9_recall 4 = .ok (.aload_n 0, 1) := by decide +kernel
theorem dX9_recall_5 : decode cX9_recall 5 = .ok (.getfield 159, 3) := by decide +kernel
theorem dX9_recall_8 : decode cX9_recall 8 = .ok (.ifCond .eq 13, 3) := by decide +kernel
theorem dX9_recall_11 : decode cX9_recall 11 = .ok (.aload_n 0, 1) := by decide +kernel
theorem dX9_recall_12 : decode cX9_recall 12 = .ok (.getfield 26, 3) := by decide +kernel
theorem dX9_recall_15 : decode cX9_recall 15 = .ok (.bipush 7, 2) := by decide +kernel
theorem dX9_recall_17 : decode cX9_recall 17 = .ok (.iaload, 1) := by decide +kernel
theorem dX9_recall_18 : decode cX9_recall 18 = .ok (.goto 8, 3) := by decide +kernel
theorem dX9_recall_21 : decode cX9_recall 21 = .ok (.aload_n 0, 1) := by decide +kernel
theorem dX9_recall_22 : decode cX9_recall 22 = .ok (.iconst 1, 1) := by decide +kernel
theorem dX9_recall_23 : decode cX9_recall 23 = .ok (.invokevirtual 153, 3) := by decide +kernel
theorem dX9_recall_26 : decode cX9_recall 26 = .ok (.ireturn, 1) := by decide +kernel
theorem dX9_mark_0 : decode cX9_mark 0 = .ok (.aload_n 0, 1) := by decide +kernel
theorem dX9_mark_1 : decode cX9_mark 1 = .ok (.invokevirtual 150, 3) := by decide +kernel
theorem dX9_mark_4 : decode cX9_mark 4 = .ok (.aload_n 0, 1) := by decide +kernel
theorem dX9_mark_5 : decode cX9_mark 5 = .ok (.getfield 159, 3) := by decide +kernel
theorem dX9_mark_8 : decode cX9_mark 8 = .ok (.ifCond .ne 9, 3) := by decide +kernel
theorem dX9_mark_11 : decode cX9_mark 11 = .ok (.aload_n 0, 1) := by decide +kernel
theorem dX9_mark_12 : decode cX9_mark 12 = .ok (.iconst 1, 1) := by decide +kernel
theorem dX9_mark_13 : decode cX9_mark 13 = .ok (.invokevirtual 153, 3) := by decide +kernel
theorem dX9_mark_16 : decode cX9_mark 16 = .ok (.ireturn, 1) := by decide +kernel
theorem dX9_mark_17 : decode cX9_mark 17 = .ok (.aload_n 0, 1) := by decide +kernel
theorem dX9_mark_18 : decode cX9_mark 18 = .ok (.getfield 162, 3) := by decide +kernel
theorem dX9_mark_21 : decode cX9_mark 21 = .ok (.iconst 3, 1) := by decide +kernel
theorem dX9_mark_22 : decode cX9_mark 22 = .ok (.if_icmp .ne 9, 3) := by decide +kernel
theorem dX9_mark_25 : decode cX9_mark 25 = .ok (.aload_n 0, 1) := by decide +kernel
theorem dX9_mark_26 : decode cX9_mark 26 = .ok (.iconst 3, 1) := by decide +kernel
theorem dX9_mark_27 : decode cX9_mark 27 = .ok (.invokevirtual 153, 3) := by decide +kernel
theorem dX9_mark_30 : decode cX9_mark 30 = .ok (.ireturn, 1) := by decide +kernel
theorem dX9_mark_31 : decode cX9_mark 31 = .ok (.iconst 0, 1) := by decide +kernel
theorem dX9_mark_32 : decode cX9_mark 32 = .ok (.istore_n 1, 1) := by decide +kernel
theorem dX9_mark_33 : decode cX9_mark 33 = .ok (.iload_n 1, 1) := by decide +kernel
theorem dX9_mark_34 : decode cX9_mark 34 = .ok (.bipush 9, 2) := by decide +kernel
theorem dX9_mark_36 : decode cX9_mark 36 = .ok (.if_icmp .ge 29, 3) := by decide +kernel
theorem dX9_mark_39 : decode cX9_mark 39 = .ok (.aload_n 0, 1) := by decide +kernel
theorem dX9_mark_40 : decode cX9_mark 40 = .ok (.getfield 29, 3) := by decide +kernel
theorem dX9_mark_43 : decode cX9_mark 43 = .ok (.bipush 9, 2) := by decide +kernel
theorem dX9_mark_45 : decode cX9_mark 45 = .ok (.aload_n 0, 1) := by decide +kernel
theorem dX9_mark_46 : decode cX9_mark 46 = .ok (.getfield 162, 3) := by decide +kernel
theorem dX9_mark_49 : decode cX9_mark 49 = .ok (.imul, 1) := by decide +kernel
theorem dX9_mark_50 : decode cX9_mark 50 = .ok (.iload_n 1, 1) := by decide +kernel
theorem dX9_mark_51 : decode cX9_mark 51 = .ok (.iadd, 1) := by decide +kernel
theorem dX9_mark_52 : decode cX9_mark 52 = .ok (.aload_n 0, 1) := by decide +kernel
theorem dX9_mark_53 : decode cX9_mark 53 = .ok (.getfield 26, 3) := by decide +kernel
theorem dX9_mark_56 : decode cX9_mark 56 = .ok (.iload_n 1, 1) := by decide +kernel
theorem dX9_mark_57 : decode cX9_mark 57 = .ok (.iaload, 1) := by decide +kernel
theorem dX9_mark_58 : decode cX9_mark 58 = .ok (.iastore, 1) := by decide +kernel
theorem dX9_mark_59 : decode cX9_mark 59 = .ok (.iinc 1 1, 3) := by decide +kernel
theorem dX9_mark_62 : decode cX9_mark 62 = .ok (.goto (-29), 3) := by decide +kernel
theorem dX9_mark_65 : decode cX9_mark 65 = .ok (.aload_n 0, 1) := by decide +kernel
theorem dX9_mark_66 : decode cX9_mark 66 = .ok (.dup, 1) := by decide +kernel
theorem dX9_mark_67 : decode cX9_mark 67 = .ok (.getfield 162, 3) := by decide +kernel
theorem dX9_mark_70 : decode cX9_mark 70 = .ok (.iconst 1, 1) := by decide +kernel
theorem dX9_mark_71 : decode cX9_mark 71 = .ok (.iadd, 1) := by decide +kernel
theorem dX9_mark_72 : decode cX9_mark 72 = .ok (.putfield 162, 3) := by decide +kernel
theorem dX9_mark_75 : decode cX9_mark 75 = .ok (.aload_n 0, 1) := by decide +kernel
theorem dX9_mark_76 : decode cX9_mark 76 = .ok (.getfield 162, 3) := by decide +kernel
theorem dX9_mark_79 : decode cX9_mark 79 = .ok (.iconst 1, 1) := by decide +kernel
theorem dX9_mark_80 : decode cX9_mark 80 = .ok (.isub, 1) := by decide +kernel
theorem dX9_mark_81 : decode cX9_mark 81 = .ok (.ireturn, 1) := by decide +kernel
theorem dX9_back_0 : decode cX9_back 0 = .ok (.aload_n 0, 1) := by decide +kernel
theorem dX9_back_1 : decode cX9_back 1 = .ok (.invokevirtual 150, 3) := by decide +kernel
theorem dX9_back_4 : decode cX9_back 4 = .ok (.iload_n 1, 1) := by decide +kernel
theorem dX9_back_5 : decode cX9_back 5 = .ok (.iconst 0, 1) := by decide +kernel
theorem dX9_back_6 : decode cX9_back 6 = .ok (.aload_n 0, 1) := by decide +kernel
theorem dX9_back_7 : decode cX9_back 7 = .ok (.getfield 162, 3) := by decide +kernel
theorem dX9_back_10 : decode cX9_back 10 = .ok (.iconst 1, 1) := by decide +kernel
theorem dX9_back_11 : decode cX9_back 11 = .ok (.isub, 1) := by decide +kernel
theorem dX9_back_12 : decode cX9_back 12 = .ok (.invokestatic 138, 3) := by decide +kernel
theorem dX9_back_15 : decode cX9_back 15 = .ok (.ifCond .ne 9, 3) := by decide +kernel
theorem dX9_back_18 : decode cX9_back 18 = .ok (.aload_n 0, 1) := by decide +kernel
theorem dX9_back_19 : decode cX9_back 19 = .ok (.iconst 1, 1) := by decide +kernel
theorem dX9_back_20 : decode cX9_back 20 = .ok (.invokevirtual 379, 3) := by decide +kernel
theorem dX9_back_23 : decode cX9_back 23 = .ok (.ireturn, 1) := by decide +kernel
theorem dX9_back_24 : decode cX9_back 24 = .ok (.iconst 0, 1) := by decide +kernel
theorem dX9_back_25 : decode cX9_back 25 = .ok (.istore_n 2, 1) := by decide +kernel
theorem dX9_back_26 : decode cX9_back 26 = .ok (.iload_n 2, 1) := by decide +kernel
theorem dX9_back_27 : decode cX9_back 27 = .ok (.bipush 9, 2) := by decide +kernel
theorem dX9_back_29 : decode cX9_back 29 = .ok (.if_icmp .ge 26, 3) := by decide +kernel
theorem dX9_back_32 : decode cX9_back 32 = .ok (.aload_n 0, 1) := by decide +kernel
theorem dX9_back_33 : decode cX9_back 33 = .ok (.getfield 26, 3) := by decide +kernel
theorem dX9_back_36 : decode cX9_back 36 = .ok (.iload_n 2, 1) := by decide +kernel
theorem dX9_back_37 : decode cX9_back 37 = .ok (.aload_n 0, 1) := by decide +kernel
theorem dX9_back_38 : decode cX9_back 38 = .ok (.getfield 29, 3) := by decide +kernel
theorem dX9_back_41 : decode cX9_back 41 = .ok (.bipush 9, 2) := by decide +kernel
theorem dX9_back_43 : decode cX9_back 43 = .ok (.iload_n 1, 1) := by decide +kernel
theorem dX9_back_44 : decode cX9_back 44 = .ok (.imul, 1) := by decide +kernel
theorem dX9_back_45 : decode cX9_back 45 = .ok (.iload_n 2, 1) := by decide +kernel
theorem dX9_back_46 : decode cX9_back 46 = .ok (.iadd, 1) := by decide +kernel
theorem dX9_back_47 : decode cX9_back 47 = .ok (.iaload, 1) := by decide +kernel
theorem dX9_back_48 : decode cX9_back 48 = .ok (.iastore, 1) := by decide +kernel
theorem dX9_back_49 : decode cX9_back 49 = .ok (.iinc 2 1, 3) := by decide +kernel
theorem dX9_back_52 : decode cX9_back 52 = .ok (.goto (-26), 3) := by decide +kernel
theorem dX9_back_55 : decode cX9_back 55 = .ok (.iconst 1, 1) := by decide +kernel
theorem dX9_back_56 : decode cX9_back 56 = .ok (.ireturn, 1) := by decide +kernel
theorem dX9_porter_0 : decode cX9_porter 0 = .ok (.aload_n 0, 1) := by decide +kernel
theorem dX9_porter_1 : decode cX9_porter 1 = .ok (.invokevirtual 150, 3) := by decide +kernel
theorem dX9_porter_4 : decode cX9_porter 4 = .ok (.aload_n 0, 1) := by decide +kernel
theorem dX9_porter_5 : decode cX9_porter 5 = .ok (.iload_n 1, 1) := by decide +kernel
theorem dX9_porter_6 : decode cX9_porter 6 = .ok (.invokevirtual 320, 3) := by decide +kernel
theorem dX9_porter_9 : decode cX9_porter 9 = .ok (.ifCond .eq 43, 3) := by decide +kernel
theorem dX9_porter_12 : decode cX9_porter 12 = .ok (.iload_n 2, 1) := by decide +kernel
theorem dX9_porter_13 : decode cX9_porter 13 = .ok (.iconst 0, 1) := by decide +kernel
theorem dX9_porter_14 : decode cX9_porter 14 = .ok (.iconst 2, 1) := by decide +kernel
theorem dX9_porter_15 : decode cX9_porter 15 = .ok (.invokestatic 138, 3) := by decide +kernel
theorem dX9_porter_18 : decode cX9_porter 18 = .ok (.ifCond .eq 34, 3) := by decide +kernel
theorem dX9_porter_21 : decode cX9_porter 21 = .ok (.aload_n 0, 1) := by decide +kernel
theorem dX9_porter_22 : decode cX9_porter 22 = .ok (.getfield 20, 3) := by decide +kernel
theorem dX9_porter_25 : decode cX9_porter 25 = .ok (.iload_n 2, 1) := by decide +kernel
theorem dX9_porter_26 : decode cX9_porter 26 = .ok (.ifCond .ne 8, 3) := by decide +kernel
theorem dX9_porter_29 : decode cX9_porter 29 = .ok (.bipush 18, 2) := by decide +kernel
theorem dX9_porter_31 : decode cX9_porter 31 = .ok (.goto 15, 3) := by decide +kernel
theorem dX9_porter_34 : decode cX9_porter 34 = .ok (.iload_n 2, 1) := by decide +kernel
theorem dX9_porter_35 : decode cX9_porter 35 = .ok (.iconst 1, 1) := by decide +kernel
theorem dX9_porter_36 : decode cX9_porter 36 = .ok (.if_icmp .ne 8, 3) := by decide +kernel
theorem dX9_porter_39 : decode cX9_porter 39 = .ok (.bipush 24, 2) := by decide +kernel
theorem dX9_porter_41 : decode cX9_porter 41 = .ok (.goto 5, 3) := by decide +kernel
theorem dX9_porter_44 : decode cX9_porter 44 = .ok (.bipush 30, 2) := by decide +kernel
theorem dX9_porter_46 : decode cX9_porter 46 = .ok (.iload_n 1, 1) := by decide +kernel
theorem dX9_porter_47 : decode cX9_porter 47 = .ok (.iadd, 1) := by decide +kernel
theorem dX9_porter_48 : decode cX9_porter 48 = .ok (.iaload, 1) := by decide +kernel
theorem dX9_porter_49 : decode cX9_porter 49 = .ok (.goto 8, 3) := by decide +kernel
theorem dX9_porter_52 : decode cX9_porter 52 = .ok (.aload_n 0, 1) := by decide +kernel
theorem dX9_porter_53 : decode cX9_porter 53 = .ok (.iconst 1, 1) := by decide +kernel
theorem dX9_porter_54 : decode cX9_porter 54 = .ok (.invokevirtual 153, 3) := by decide +kernel
theorem dX9_porter_57 : decode cX9_porter 57 = .ok (.ireturn, 1) := by decide +kernel
theorem dX9_boxOf_0 : decode cX9_boxOf 0 = .ok (.aload_n 0, 1) := by decide +kernel
theorem dX9_boxOf_1 : decode cX9_boxOf 1 = .ok (.invokevirtual 150, 3) := by decide +kernel
theorem dX9_boxOf_4 : decode cX9_boxOf 4 = .ok (.aload_n 0, 1) := by decide +kernel
theorem dX9_boxOf_5 : decode cX9_boxOf 5 = .ok (.iload_n 1, 1) := by decide +kernel
theorem dX9_boxOf_6 : decode cX9_boxOf 6 = .ok (.invokevirtual 341, 3) := by decide +kernel
theorem dX9_boxOf_9 : decode cX9_boxOf 9 = .ok (.ifCond .eq 23, 3) := by decide +kernel
theorem dX9_boxOf_12 : decode cX9_boxOf 12 = .ok (.aload_n 0, 1) := by decide +kernel
theorem dX9_boxOf_13 : decode cX9_boxOf 13 = .ok (.getfield 20, 3) := by decide +kernel
theorem dX9_boxOf_16 : decode cX9_boxOf 16 = .ok (.iload_n 2, 1) := by decide +kernel
theorem dX9_boxOf_17 : decode cX9_boxOf 17 = .ok (.ifCond .eq 8, 3) := by decide +kernel
theorem dX9_boxOf_20 : decode cX9_boxOf 20 = .ok (.bipush 7, 2) := by decide +kernel
theorem dX9_boxOf_22 : decode cX9_boxOf 22 = .ok (.goto 4, 3) := by decide +kernel
theorem dX9_boxOf_25 : decode cX9_boxOf 25 = .ok (.iconst 2, 1) := by decide +kernel
theorem dX9_boxOf_26 : decode cX9_boxOf 26 = .ok (.iload_n 1, 1) := by decide +kernel
theorem dX9_boxOf_27 : decode cX9_boxOf 27 = .ok (.iadd, 1) := by decide +kernel
theorem dX9_boxOf_28 : decode cX9_boxOf 28 = .ok (.iaload, 1) := by decide +kernel
theorem dX9_boxOf_29 : decode cX9_boxOf 29 = .ok (.goto 8, 3) := by decide +kernel
theorem dX9_boxOf_32 : decode cX9_boxOf 32 = .ok (.aload_n 0, 1) := by decide +kernel
theorem dX9_boxOf_33 : decode cX9_boxOf 33 = .ok (.iconst 1, 1) := by decide +kernel
theorem dX9_boxOf_34 : decode cX9_boxOf 34 = .ok (.invokevirtual 153, 3) := by decide +kernel
theorem dX9_boxOf_37 : decode cX9_boxOf 37 = .ok (.ireturn, 1) := by decide +kernel
theorem dX9_led_0 : decode cX9_led 0 = .ok (.iconst 0, 1) := by decide +kernel
theorem dX9_led_1 : decode cX9_led 1 = .ok (.istore_n 2, 1) := by decide +kernel
theorem dX9_led_2 : decode cX9_led 2 = .ok (.iconst 0, 1) := by decide +kernel
theorem dX9_led_3 : decode cX9_led 3 = .ok (.istore_n 3, 1) := by decide +kernel
theorem dX9_led_4 : decode cX9_led 4 = .ok (.aload_n 0, 1) := by decide +kernel
theorem dX9_led_5 : decode cX9_led 5 = .ok (.getfield 159, 3) := by decide +kernel
theorem dX9_led_8 : decode cX9_led 8 = .ok (.ifCond .eq 46, 3) := by decide +kernel
theorem dX9_led_11 : decode cX9_led 11 = .ok (.iload_n 3, 1) := by decide +kernel
theorem dX9_led_12 : decode cX9_led 12 = .ok (.aload_n 0, 1) := by decide +kernel
theorem dX9_led_13 : decode cX9_led 13 = .ok (.getfield 20, 3) := by decide +kernel
theorem dX9_led_16 : decode cX9_led 16 = .ok (.iconst 0, 1) := by decide +kernel
theorem dX9_led_17 : decode cX9_led 17 = .ok (.iaload, 1) := by decide +kernel
theorem dX9_led_18 : decode cX9_led 18 = .ok (.if_icmp .ge 36, 3) := by decide +kernel
theorem dX9_led_21 : decode cX9_led 21 = .ok (.aload_n 0, 1) := by decide +kernel
theorem dX9_led_22 : decode cX9_led 22 = .ok (.getfield 26, 3) := by decide +kernel
theorem dX9_led_25 : decode cX9_led 25 = .ok (.iload_n 3, 1) := by decide +kernel
theorem dX9_led_26 : decode cX9_led 26 = .ok (.iaload, 1) := by decide +kernel
theorem dX9_led_27 : decode cX9_led 27 = .ok (.ifCond .le 6, 3) := by decide +kernel
theorem dX9_led_30 : decode cX9_led 30 = .ok (.goto 18, 3) := by decide +kernel
theorem dX9_led_33 : decode cX9_led 33 = .ok (.iload_n 2, 1) := by decide +kernel
theorem dX9_led_34 : decode cX9_led 34 = .ok (.iload_n 1, 1) := by decide +kernel
theorem dX9_led_35 : decode cX9_led 35 = .ok (.if_icmp .ne 10, 3) := by decide +kernel
theorem dX9_led_38 : decode cX9_led 38 = .ok (.aload_n 0, 1) := by decide +kernel
theorem dX9_led_39 : decode cX9_led 39 = .ok (.iconst 0, 1) := by decide +kernel
theorem dX9_led_40 : decode cX9_led 40 = .ok (.putfield 69, 3) := by decide +kernel
theorem dX9_led_43 : decode cX9_led 43 = .ok (.iload_n 3, 1) := by decide +kernel
theorem dX9_led_44 : decode cX9_led 44 = .ok (.ireturn, 1) := by decide +kernel
theorem dX9_led_45 : decode cX9_led 45 = .ok (.iinc 2 1, 3) := by decide +kernel
theorem dX9_led_48 : decode cX9_led 48 = .ok (.iinc 3 1, 3) := by decide +kernel
theorem dX9_led_51 : decode cX9_led 51 = .ok (.goto (-47), 3) := by decide +kernel
theorem dX9_led_54 : decode cX9_led 54 = .ok (.aload_n 0, 1) := by decide +kernel
theorem dX9_led_55 : decode cX9_led 55 = .ok (.iconst 1, 1) := by decide +kernel
theorem dX9_led_56 : decode cX9_led 56 = .ok (.putfield 69, 3) := by decide +kernel
theorem dX9_led_59 : decode cX9_led 59 = .ok (.iconst 0, 1) := by decide +kernel
theorem dX9_led_60 : decode cX9_led 60 = .ok (.ireturn, 1) := by decide +kernel
theorem dX9_size_0 : decode cX9_size 0 = .ok (.aload_n 0, 1) := by decide +kernel
theorem dX9_size_1 : decode cX9_size 1 = .ok (.iconst 0, 1) := by decide +kernel
theorem dX9_size_2 : decode cX9_size 2 = .ok (.putfield 69, 3) := by decide +kernel
theorem dX9_size_5 : decode cX9_size 5 = .ok (.iload_n 1, 1) := by decide +kernel
theorem dX9_size_6 : decode cX9_size 6 = .ok (.bipush 9, 2) := by decide +kernel
theorem dX9_size_8 : decode cX9_size 8 = .ok (.if_icmp .ne 8, 3) := by decide +kernel
theorem dX9_size_11 : decode cX9_size 11 = .ok (.aload_n 0, 1) := by decide +kernel
theorem dX9_size_12 : decode cX9_size 12 = .ok (.getfield 75, 3) := by decide +kernel
theorem dX9_size_15 : decode cX9_size 15 = .ok (.ireturn, 1) := by decide +kernel
theorem dX9_size_16 : decode cX9_size 16 = .ok (.aload_n 0, 1) := by decide +kernel
theorem dX9_size_17 : decode cX9_size 17 = .ok (.getfield 159, 3) := by decide +kernel
theorem dX9_size_20 : decode cX9_size 20 = .ok (.ifCond .ne 19, 3) := by decide +kernel
theorem dX9_size_23 : decode cX9_size 23 = .ok (.iload_n 1, 1) := by decide +kernel
theorem dX9_size_24 : decode cX9_size 24 = .ok (.iconst 0, 1) := by decide +kernel
theorem dX9_size_25 : decode cX9_size 25 = .ok (.bipush 8, 2) := by decide +kernel
theorem dX9_size_27 : decode cX9_size 27 = .ok (.invokestatic 138, 3) := by decide +kernel
theorem dX9_size_30 : decode cX9_size 30 = .ok (.ifCond .eq 7, 3) := by decide +kernel
theorem dX9_size_33 : decode cX9_size 33 = .ok (.iconst 0, 1) := by decide +kernel
theorem dX9_size_34 : decode cX9_size 34 = .ok (.goto 4, 3) := by decide +kernel
theorem dX9_size_37 : decode cX9_size 37 = .ok (.iconst (-1), 1) := by decide +kernel
theorem dX9_size_38 : decode cX9_size 38 = .ok (.ireturn, 1) := by decide +kernel
theorem dX9_size_39 : decode cX9_size 39 = .ok (.iconst 0, 1) := by decide +kernel
theorem dX9_size_40 : decode cX9_size 40 = .ok (.istore_n 2, 1) := by decide +kernel
theorem dX9_size_41 : decode cX9_size 41 = .ok (.iconst 0, 1) := by decide +kernel
theorem dX9_size_42 : decode cX9_size 42 = .ok (.istore_n 3, 1) := by decide +kernel
theorem dX9_size_43 : decode cX9_size 43 = .ok (.iload_n 3, 1) := by decide +kernel
theorem dX9_size_44 : decode cX9_size 44 = .ok (.iconst 5, 1) := by decide +kernel
theorem dX9_size_45 : decode cX9_size 45 = .ok (.if_icmp .ge 18, 3) := by decide +kernel
theorem dX9_size_48 : decode cX9_size 48 = .ok (.iload_n 2, 1) := by decide +kernel
theorem dX9_size_49 : decode cX9_size 49 = .ok (.aload_n 0, 1) := by decide +kernel
theorem dX9_size_50 : decode cX9_size 50 = .ok (.getfield 26, 3) := by decide +kernel
theorem dX9_size_53 : decode cX9_size 53 = .ok (.iload_n 3, 1) := by decide +kernel
theorem dX9_size_54 : decode cX9_size 54 = .ok (.iaload, 1) := by decide +kernel
theorem dX9_size_55 : decode cX9_size 55 = .ok (.iadd, 1) := by decide +kernel
theorem dX9_size_56 : decode cX9_size 56 = .ok (.istore_n 2, 1) := by decide +kernel
theorem dX9_size_57 : decode cX9_size 57 = .ok (.iinc 3 1, 3) := by decide +kernel
theorem dX9_size_60 : decode cX9_size 60 = .ok (.goto (-17), 3) := by decide +kernel
theorem dX9_size_63 : decode cX9_size 63 = .ok (.iload_n 1, 1) := by decide +kernel
theorem dX9_size_64 : decode cX9_size 64 = .ok (.tableswitch 120 0 8 #[52, 59, 66, 74, 82, 89, 97, 107, 115], 52) := by decide +kernel
theorem dX9_size_116 : decode cX9_size 116 = .ok (.aload_n 0, 1) := by decide +kernel
theorem dX9_size_117 : decode cX9_size 117 = .ok (.getfield 20, 3) := by decide +kernel
theorem dX9_size_120 : decode cX9_size 120 = .ok (.iconst 0, 1) := by decide +kernel
theorem dX9_size_121 : decode cX9_size 121 = .ok (.iaload, 1) := by decide +kernel
theorem dX9_size_122 : decode cX9_size 122 = .ok (.ireturn, 1) := by decide +kernel
theorem dX9_size_123 : decode cX9_size 123 = .ok (.aload_n 0, 1) := by decide +kernel
theorem dX9_size_124 : decode cX9_size 124 = .ok (.getfield 20, 3) := by decide +kernel
theorem dX9_size_127 : decode cX9_size 127 = .ok (.iconst 1, 1) := by decide +kernel
theorem dX9_size_128 : decode cX9_size 128 = .ok (.iaload, 1) := by decide +kernel
theorem dX9_size_129 : decode cX9_size 129 = .ok (.ireturn, 1) := by decide +kernel
theorem dX9_size_130 : decode cX9_size 130 = .ok (.aload_n 0, 1) := by decide +kernel
theorem dX9_size_131 : decode cX9_size 131 = .ok (.getfield 20, 3) := by decide +kernel
theorem dX9_size_134 : decode cX9_size 134 = .ok (.bipush 17, 2) := by decide +kernel
theorem dX9_size_136 : decode cX9_size 136 = .ok (.iaload, 1) := by decide +kernel
theorem dX9_size_137 : decode cX9_size 137 = .ok (.ireturn, 1) := by decide +kernel
theorem dX9_size_138 : decode cX9_size 138 = .ok (.aload_n 0, 1) := by decide +kernel
theorem dX9_size_139 : decode cX9_size 139 = .ok (.getfield 20, 3) := by decide +kernel
theorem dX9_size_142 : decode cX9_size 142 = .ok (.bipush 39, 2) := by decide +kernel
theorem dX9_size_144 : decode cX9_size 144 = .ok (.iaload, 1) := by decide +kernel
theorem dX9_size_145 : decode cX9_size 145 = .ok (.ireturn, 1) := by decide +kernel
theorem dX9_size_146 : decode cX9_size 146 = .ok (.aload_n 0, 1) := by decide +kernel
theorem dX9_size_147 : decode cX9_size 147 = .ok (.getfield 26, 3) := by decide +kernel
theorem dX9_size_150 : decode cX9_size 150 = .ok (.iconst 5, 1) := by decide +kernel
theorem dX9_size_151 : decode cX9_size 151 = .ok (.iaload, 1) := by decide +kernel
theorem dX9_size_152 : decode cX9_size 152 = .ok (.ireturn, 1) := by decide +kernel
theorem dX9_size_153 : decode cX9_size 153 = .ok (.aload_n 0, 1) := by decide +kernel
theorem dX9_size_154 : decode cX9_size 154 = .ok (.getfield 26, 3) := by decide +kernel
theorem dX9_size_157 : decode cX9_size 157 = .ok (.bipush 6, 2) := by decide +kernel
theorem dX9_size_159 : decode cX9_size 159 = .ok (.iaload, 1) := by decide +kernel
theorem dX9_size_160 : decode cX9_size 160 = .ok (.ireturn, 1) := by decide +kernel
theorem dX9_size_161 : decode cX9_size 161 = .ok (.aload_n 0, 1) := by decide +kernel
theorem dX9_size_162 : decode cX9_size 162 = .ok (.getfield 26, 3) := by decide +kernel
theorem dX9_size_165 : decode cX9_size 165 = .ok (.bipush 6, 2) := by decide +kernel
theorem dX9_size_167 : decode cX9_size 167 = .ok (.iaload, 1) := by decide +kernel
theorem dX9_size_168 : decode cX9_size 168 = .ok (.iload_n 2, 1) := by decide +kernel
theorem dX9_size_169 : decode cX9_size 169 = .ok (.isub, 1) := by decide +kernel
theorem dX9_size_170 : decode cX9_size 170 = .ok (.ireturn, 1) := by decide +kernel
theorem dX9_size_171 : decode cX9_size 171 = .ok (.aload_n 0, 1) := by decide +kernel
theorem dX9_size_172 : decode cX9_size 172 = .ok (.getfield 26, 3) := by decide +kernel
theorem dX9_size_175 : decode cX9_size 175 = .ok (.bipush 8, 2) := by decide +kernel
theorem dX9_size_177 : decode cX9_size 177 = .ok (.iaload, 1) := by decide +kernel
theorem dX9_size_178 : decode cX9_size 178 = .ok (.ireturn, 1) := by decide +kernel
theorem dX9_size_179 : decode cX9_size 179 = .ok (.aload_n 0, 1) := by decide +kernel
theorem dX9_size_180 : decode cX9_size 180 = .ok (.getfield 162, 3) := by decide +kernel
theorem dX9_size_183 : decode cX9_size 183 = .ok (.ireturn, 1) := by decide +kernel
theorem dX9_size_184 : decode cX9_size 184 = .ok (.iconst (-1), 1) := by decide +kernel
theorem dX9_size_185 : decode cX9_size 185 = .ok (.ireturn, 1) := by decide +kernel
theorem dX9_trouble_0 : decode cX9_trouble 0 = .ok (.aload_n 0, 1) := by decide +kernel
theorem dX9_trouble_1 : decode cX9_trouble 1 = .ok (.iconst 0, 1) := by decide +kernel
theorem dX9_trouble_2 : decode cX9_trouble 2 = .ok (.putfield 69, 3) := by decide +kernel
theorem dX9_trouble_5 : decode cX9_trouble 5 = .ok (.aload_n 0, 1) := by decide +kernel
theorem dX9_trouble_6 : decode cX9_trouble 6 = .ok (.getfield 72, 3) := by decide +kernel
theorem dX9_trouble_9 : decode cX9_trouble 9 = .ok (.ireturn, 1) := by decide +kernel
theorem dJ9_max_7cf53_0 : decode cJ9_max_7cf53 0 = .ok (.iload_n 0, 1) := by decide +kernel
theorem dJ9_max_7cf53_1 : decode cJ9_max_7cf53 1 = .ok (.iload_n 1, 1) := by decide +kernel
theorem dJ9_max_7cf53_2 : decode cJ9_max_7cf53 2 = .ok (.if_icmp .lt 7, 3) := by decide +kernel
theorem dJ9_max_7cf53_5 : decode cJ9_max_7cf53 5 = .ok (.iload_n 0, 1) := by decide +kernel
theorem dJ9_max_7cf53_6 : decode cJ9_max_7cf53 6 = .ok (.goto 4, 3) := by decide +kernel
theorem dJ9_max_7cf53_9 : decode cJ9_max_7cf53 9 = .ok (.iload_n 1, 1) := by decide +kernel
theorem dJ9_max_7cf53_10 : decode cJ9_max_7cf53 10 = .ok (.ireturn, 1) := by decide +kernel
theorem dJ9_max_f86c9_0 : decode cJ9_max_f86c9 0 = .ok (.lload_n 0, 1) := by decide +kernel
theorem dJ9_max_f86c9_1 : decode cJ9_max_f86c9 1 = .ok (.lload_n 2, 1) := by decide +kernel
theorem dJ9_max_f86c9_2 : decode cJ9_max_f86c9 2 = .ok (.lcmp, 1) := by decide +kernel
theorem dJ9_max_f86c9_3 : decode cJ9_max_f86c9 3 = .ok (.ifCond .lt 7, 3) := by decide +kernel
theorem dJ9_max_f86c9_6 : decode cJ9_max_f86c9 6 = .ok (.lload_n 0, 1) := by decide +kernel
theorem dJ9_max_f86c9_7 : decode cJ9_max_f86c9 7 = .ok (.goto 4, 3) := by decide +kernel
theorem dJ9_max_f86c9_10 : decode cJ9_max_f86c9 10 = .ok (.lload_n 2, 1) := by decide +kernel
theorem dJ9_max_f86c9_11 : decode cJ9_max_f86c9 11 = .ok (.lreturn, 1) := by decide +kernel
theorem dJ9_min_7cf53_0 : decode cJ9_min_7cf53 0 = .ok (.iload_n 0, 1) := by decide +kernel
theorem dJ9_min_7cf53_1 : decode cJ9_min_7cf53 1 = .ok (.iload_n 1, 1) := by decide +kernel
theorem dJ9_min_7cf53_2 : decode cJ9_min_7cf53 2 = .ok (.if_icmp .gt 7, 3) := by decide +kernel
theorem dJ9_min_7cf53_5 : decode cJ9_min_7cf53 5 = .ok (.iload_n 0, 1) := by decide +kernel
theorem dJ9_min_7cf53_6 : decode cJ9_min_7cf53 6 = .ok (.goto 4, 3) := by decide +kernel
theorem dJ9_min_7cf53_9 : decode cJ9_min_7cf53 9 = .ok (.iload_n 1, 1) := by decide +kernel
theorem dJ9_min_7cf53_10 : decode cJ9_min_7cf53 10 = .ok (.ireturn, 1) := by decide +kernel
theorem dJ0_length_8abf5_0 : decode cJ0_length_8abf5 0 = .ok (.aload_n 0, 1) := by decide +kernel
theorem dJ0_length_8abf5_1 : decode cJ0_length_8abf5 1 = .ok (.getfield 9, 3) := by decide +kernel
theorem dJ0_length_8abf5_4 : decode cJ0_length_8abf5 4 = .ok (.arraylength, 1) := by decide +kernel
theorem dJ0_length_8abf5_5 : decode cJ0_length_8abf5 5 = .ok (.aload_n 0, 1) := by decide +kernel
theorem dJ0_length_8abf5_6 : decode cJ0_length_8abf5 6 = .ok (.invokevirtual 335, 3) := by decide +kernel
theorem dJ0_length_8abf5_9 : decode cJ0_length_8abf5 9 = .ok (.ishr, 1) := by decide +kernel
theorem dJ0_length_8abf5_10 : decode cJ0_length_8abf5 10 = .ok (.ireturn, 1) := by decide +kernel
theorem dJ0_charAt_5068e_0 : decode cJ0_charAt_5068e 0 = .ok (.aload_n 0, 1) := by decide +kernel
theorem dJ0_charAt_5068e_1 : decode cJ0_charAt_5068e 1 = .ok (.invokevirtual 492, 3) := by decide +kernel
theorem dJ0_charAt_5068e_4 : decode cJ0_charAt_5068e 4 = .ok (.ifCond .eq 12, 3) := by decide +kernel
theorem dJ0_charAt_5068e_7 : decode cJ0_charAt_5068e 7 = .ok (.aload_n 0, 1) := by decide +kernel
theorem dJ0_charAt_5068e_8 : decode cJ0_charAt_5068e 8 = .ok (.getfield 9, 3) := by decide +kernel
theorem dJ0_charAt_5068e_11 : decode cJ0_charAt_5068e 11 = .ok (.iload_n 1, 1) := by decide +kernel
theorem dJ0_charAt_5068e_12 : decode cJ0_charAt_5068e 12 = .ok (.invokestatic 495, 3) := by decide +kernel
theorem dJ0_charAt_5068e_15 : decode cJ0_charAt_5068e 15 = .ok (.ireturn, 1) := by decide +kernel
theorem dJ0_charAt_5068e_16 : decode cJ0_charAt_5068e 16 = .ok (.aload_n 0, 1) := by decide +kernel
theorem dJ0_charAt_5068e_17 : decode cJ0_charAt_5068e 17 = .ok (.getfield 9, 3) := by decide +kernel
theorem dJ0_charAt_5068e_20 : decode cJ0_charAt_5068e 20 = .ok (.iload_n 1, 1) := by decide +kernel
theorem dJ0_charAt_5068e_21 : decode cJ0_charAt_5068e 21 = .ok (.invokestatic 498, 3) := by decide +kernel
theorem dJ0_charAt_5068e_24 : decode cJ0_charAt_5068e 24 = .ok (.ireturn, 1) := by decide +kernel
theorem dJ0_coder_7d493_0 : decode cJ0_coder_7d493 0 = .ok (.getstatic 38, 3) := by decide +kernel
theorem dJ0_coder_7d493_3 : decode cJ0_coder_7d493 3 = .ok (.ifCond .eq 10, 3) := by decide +kernel
theorem dJ0_coder_7d493_6 : decode cJ0_coder_7d493 6 = .ok (.aload_n 0, 1) := by decide +kernel
theorem dJ0_coder_7d493_7 : decode cJ0_coder_7d493 7 = .ok (.getfield 15, 3) := by decide +kernel
theorem dJ0_coder_7d493_10 : decode cJ0_coder_7d493 10 = .ok (.goto 4, 3) := by decide +kernel
theorem dJ0_coder_7d493_13 : decode cJ0_coder_7d493 13 = .ok (.iconst 1, 1) := by decide +kernel
theorem dJ0_coder_7d493_14 : decode cJ0_coder_7d493 14 = .ok (.ireturn, 1) := by decide +kernel
theorem dJ0_isLatin1_aae02_0 : decode cJ0_isLatin1_aae02 0 = .ok (.getstatic 38, 3) := by decide +kernel
theorem dJ0_isLatin1_aae02_3 : decode cJ0_isLatin1_aae02 3 = .ok (.ifCond .eq 14, 3) := by decide +kernel
theorem dJ0_isLatin1_aae02_6 : decode cJ0_isLatin1_aae02 6 = .ok (.aload_n 0, 1) := by decide +kernel
theorem dJ0_isLatin1_aae02_7 : decode cJ0_isLatin1_aae02 7 = .ok (.getfield 15, 3) := by decide +kernel
theorem dJ0_isLatin1_aae02_10 : decode cJ0_isLatin1_aae02 10 = .ok (.ifCond .ne 7, 3) := by decide +kernel
theorem dJ0_isLatin1_aae02_13 : decode cJ0_isLatin1_aae02 13 = .ok (.iconst 1, 1) := by decide +kernel
theorem dJ0_isLatin1_aae02_14 : decode cJ0_isLatin1_aae02 14 = .ok (.goto 4, 3) := by decide +kernel
theorem dJ0_isLatin1_aae02_17 : decode cJ0_isLatin1_aae02 17 = .ok (.iconst 0, 1) := by decide +kernel
theorem dJ0_isLatin1_aae02_18 : decode cJ0_isLatin1_aae02 18 = .ok (.ireturn, 1) := by decide +kernel
theorem dJ0_checkIndex_df160_0 : decode cJ0_checkIndex_df160 0 = .ok (.iload_n 0, 1) := by decide +kernel
theorem dJ0_checkIndex_df160_1 : decode cJ0_checkIndex_df160 1 = .ok (.iload_n 1, 1) := by decide +kernel
theorem dJ0_checkIndex_df160_2 : decode cJ0_checkIndex_df160 2 = .ok (.getstatic 1053, 3) := by decide +kernel
theorem dJ0_checkIndex_df160_5 : decode cJ0_checkIndex_df160 5 = .ok (.invokestatic 1059, 3) := by decide +kernel
theorem dJ0_checkIndex_df160_8 : decode cJ0_checkIndex_df160 8 = .ok (.pop, 1) := by decide +kernel
theorem dJ0_checkIndex_df160_9 : decode cJ0_checkIndex_df160 9 = .ok (.return_, 1) := by decide +kernel
theorem dJ1_charAt_3b067_0 : decode cJ1_charAt_3b067 0 = .ok (.iload_n 1, 1) := by decide +kernel
theorem dJ1_charAt_3b067_1 : decode cJ1_charAt_3b067 1 = .ok (.aload_n 0, 1) := by decide +kernel
theorem dJ1_charAt_3b067_2 : decode cJ1_charAt_3b067 2 = .ok (.arraylength, 1) := by decide +kernel
theorem dJ1_charAt_3b067_3 : decode cJ1_charAt_3b067 3 = .ok (.invokestatic 9, 3) := by decide +kernel
theorem dJ1_charAt_3b067_6 : decode cJ1_charAt_3b067 6 = .ok (.aload_n 0, 1) := by decide +kernel
theorem dJ1_charAt_3b067_7 : decode cJ1_charAt_3b067 7 = .ok (.iload_n 1, 1) := by decide +kernel
theorem dJ1_charAt_3b067_8 : decode cJ1_charAt_3b067 8 = .ok (.baload, 1) := by decide +kernel
theorem dJ1_charAt_3b067_9 : decode cJ1_charAt_3b067 9 = .ok (.sipush 255, 3) := by decide +kernel
theorem dJ1_charAt_3b067_12 : decode cJ1_charAt_3b067 12 = .ok (.iand, 1) := by decide +kernel
theorem dJ1_charAt_3b067_13 : decode cJ1_charAt_3b067 13 = .ok (.i2c, 1) := by decide +kernel
theorem dJ1_charAt_3b067_14 : decode cJ1_charAt_3b067 14 = .ok (.ireturn, 1) := by decide +kernel
theorem dJ2_getChar_3b067_0 : decode cJ2_getChar_3b067 0 = .ok (.getstatic 44, 3) := by decide +kernel
theorem dJ2_getChar_3b067_3 : decode cJ2_getChar_3b067 3 = .ok (.ifCond .ne 25, 3) := by decide +kernel
theorem dJ2_getChar_3b067_6 : decode cJ2_getChar_3b067 6 = .ok (.iload_n 1, 1) := by decide +kernel
theorem dJ2_getChar_3b067_7 : decode cJ2_getChar_3b067 7 = .ok (.ifCond .lt 11, 3) := by decide +kernel
theorem dJ2_getChar_3b067_10 : decode cJ2_getChar_3b067 10 = .ok (.iload_n 1, 1) := by decide +kernel
theorem dJ2_getChar_3b067_11 : decode cJ2_getChar_3b067 11 = .ok (.aload_n 0, 1) := by decide +kernel
theorem dJ2_getChar_3b067_12 : decode cJ2_getChar_3b067 12 = .ok (.invokestatic 48, 3) := by decide +kernel
theorem dJ2_getChar_3b067_15 : decode cJ2_getChar_3b067 15 = .ok (.if_icmp .lt 13, 3) := by decide +kernel
theorem dJ2_getChar_3b067_18 : decode cJ2_getChar_3b067 18 = .ok (.new 52, 3) := by decide +kernel
theorem dJ2_getChar_3b067_21 : decode cJ2_getChar_3b067 21 = .ok (.dup, 1) := by decide +kernel
theorem dJ2_getChar_3b067_22 : decode cJ2_getChar_3b067 22 = .ok (.ldc 54, 2) := by decide +kernel
theorem dJ2_getChar_3b067_24 : decode cJ2_getChar_3b067 24 = .ok (.invokespecial 56, 3) := by decide +kernel
theorem dJ2_getChar_3b067_27 : decode cJ2_getChar_3b067 27 = .ok (.athrow, 1) := by decide +kernel
theorem dJ2_getChar_3b067_28 : decode cJ2_getChar_3b067 28 = .ok (.iload_n 1, 1) := by decide +kernel
theorem dJ2_getChar_3b067_29 : decode cJ2_getChar_3b067 29 = .ok (.iconst 1, 1) := by decide +kernel
theorem dJ2_getChar_3b067_30 : decode cJ2_getChar_3b067 30 = .ok (.ishl, 1) := by decide +kernel
theorem dJ2_getChar_3b067_31 : decode cJ2_getChar_3b067 31 = .ok (.istore_n 1, 1) := by decide +kernel
theorem dJ2_getChar_3b067_32 : decode cJ2_getChar_3b067 32 = .ok (.aload_n 0, 1) := by decide +kernel
theorem dJ2_getChar_3b067_33 : decode cJ2_getChar_3b067 33 = .ok (.iload_n 1, 1) := by decide +kernel
theorem dJ2_getChar_3b067_34 : decode cJ2_getChar_3b067 34 = .ok (.iinc 1 1, 3) := by decide +kernel
theorem dJ2_getChar_3b067_37 : decode cJ2_getChar_3b067 37 = .ok (.baload, 1) := by decide +kernel
theorem dJ2_getChar_3b067_38 : decode cJ2_getChar_3b067 38 = .ok (.sipush 255, 3) := by decide +kernel
theorem dJ2_getChar_3b067_41 : decode cJ2_getChar_3b067 41 = .ok (.iand, 1) := by decide +kernel
theorem dJ2_getChar_3b067_42 : decode cJ2_getChar_3b067 42 = .ok (.getstatic 59, 3) := by decide +kernel
theorem dJ2_getChar_3b067_45 : decode cJ2_getChar_3b067 45 = .ok (.ishl, 1) := by decide +kernel
theorem dJ2_getChar_3b067_46 : decode cJ2_getChar_3b067 46 = .ok (.aload_n 0, 1) := by decide +kernel
theorem dJ2_getChar_3b067_47 : decode cJ2_getChar_3b067 47 = .ok (.iload_n 1, 1) := by decide +kernel
theorem dJ2_getChar_3b067_48 : decode cJ2_getChar_3b067 48 = .ok (.baload, 1) := by decide +kernel
theorem dJ2_getChar_3b067_49 : decode cJ2_getChar_3b067 49 = .ok (.sipush 255, 3) := by decide +kernel
theorem dJ2_getChar_3b067_52 : decode cJ2_getChar_3b067 52 = .ok (.iand, 1) := by decide +kernel
theorem dJ2_getChar_3b067_53 : decode cJ2_getChar_3b067 53 = .ok (.getstatic 63, 3) := by decide +kernel
theorem dJ2_getChar_3b067_56 : decode cJ2_getChar_3b067 56 = .ok (.ishl, 1) := by decide +kernel
theorem dJ2_getChar_3b067_57 : decode cJ2_getChar_3b067 57 = .ok (.ior, 1) := by decide +kernel
theorem dJ2_getChar_3b067_58 : decode cJ2_getChar_3b067 58 = .ok (.i2c, 1) := by decide +kernel
theorem dJ2_getChar_3b067_59 : decode cJ2_getChar_3b067 59 = .ok (.ireturn, 1) := by decide +kernel
theorem dJ2_length_9d52b_0 : decode cJ2_length_9d52b 0 = .ok (.aload_n 0, 1) := by decide +kernel
theorem dJ2_length_9d52b_1 : decode cJ2_length_9d52b 1 = .ok (.arraylength, 1) := by decide +kernel
theorem dJ2_length_9d52b_2 : decode cJ2_length_9d52b 2 = .ok (.iconst 1, 1) := by decide +kernel
theorem dJ2_length_9d52b_3 : decode cJ2_length_9d52b 3 = .ok (.ishr, 1) := by decide +kernel
theorem dJ2_length_9d52b_4 : decode cJ2_length_9d52b 4 = .ok (.ireturn, 1) := by decide +kernel
theorem dJ2_charAt_3b067_0 : decode cJ2_charAt_3b067 0 = .ok (.iload_n 1, 1) := by decide +kernel
theorem dJ2_charAt_3b067_1 : decode cJ2_charAt_3b067 1 = .ok (.aload_n 0, 1) := by decide +kernel
theorem dJ2_charAt_3b067_2 : decode cJ2_charAt_3b067 2 = .ok (.invokestatic 67, 3) := by decide +kernel
theorem dJ2_charAt_3b067_5 : decode cJ2_charAt_3b067 5 = .ok (.aload_n 0, 1) := by decide +kernel
theorem dJ2_charAt_3b067_6 : decode cJ2_charAt_3b067 6 = .ok (.iload_n 1, 1) := by decide +kernel
theorem dJ2_charAt_3b067_7 : decode cJ2_charAt_3b067 7 = .ok (.invokestatic 71, 3) := by decide +kernel
theorem dJ2_charAt_3b067_10 : decode cJ2_charAt_3b067 10 = .ok (.ireturn, 1) := by decide +kernel
theorem dJ2_checkIndex_2214a_0 : decode cJ2_checkIndex_2214a 0 = .ok (.iload_n 0, 1) := by decide +kernel
theorem dJ2_checkIndex_2214a_1 : decode cJ2_checkIndex_2214a 1 = .ok (.aload_n 1, 1) := by decide +kernel
theorem dJ2_checkIndex_2214a_2 : decode cJ2_checkIndex_2214a 2 = .ok (.invokestatic 48, 3) := by decide +kernel
theorem dJ2_checkIndex_2214a_5 : decode cJ2_checkIndex_2214a 5 = .ok (.invokestatic 414, 3) := by decide +kernel
theorem dJ2_checkIndex_2214a_8 : decode cJ2_checkIndex_2214a 8 = .ok (.return_, 1) := by decide +kernel
theorem dJ3_checkIndex_8e157_0 : decode cJ3_checkIndex_8e157 0 = .ok (.iload_n 0, 1) := by decide +kernel
theorem dJ3_checkIndex_8e157_1 : decode cJ3_checkIndex_8e157 1 = .ok (.ifCond .lt 8, 3) := by decide +kernel
theorem dJ3_checkIndex_8e157_4 : decode cJ3_checkIndex_8e157 4 = .ok (.iload_n 0, 1) := by decide +kernel
theorem dJ3_checkIndex_8e157_5 : decode cJ3_checkIndex_8e157 5 = .ok (.iload_n 1, 1) := by decide +kernel
theorem dJ3_checkIndex_8e157_6 : decode cJ3_checkIndex_8e157 6 = .ok (.if_icmp .lt 10, 3) := by decide +kernel
theorem dJ3_checkIndex_8e157_9 : decode cJ3_checkIndex_8e157 9 = .ok (.aload_n 2, 1) := by decide +kernel
theorem dJ3_checkIndex_8e157_10 : decode cJ3_checkIndex_8e157 10 = .ok (.iload_n 0, 1) := by decide +kernel
theorem dJ3_checkIndex_8e157_11 : decode cJ3_checkIndex_8e157 11 = .ok (.iload_n 1, 1) := by decide +kernel
theorem dJ3_checkIndex_8e157_12 : decode cJ3_checkIndex_8e157 12 = .ok (.invokestatic 95, 3) := by decide +kernel
theorem dJ3_checkIndex_8e157_15 : decode cJ3_checkIndex_8e157 15 = .ok (.athrow, 1) := by decide +kernel
theorem dJ3_checkIndex_8e157_16 : decode cJ3_checkIndex_8e157 16 = .ok (.iload_n 0, 1) := by decide +kernel
theorem dJ3_checkIndex_8e157_17 : decode cJ3_checkIndex_8e157 17 = .ok (.ireturn, 1) := by decide +kernel
theorem dL_led_0 : decode cL_led 0 = .ok (.aload_n 2, 1) := by decide +kernel
theorem dL_led_1 : decode cL_led 1 = .ok (.iconst 0, 1) := by decide +kernel
theorem dL_led_2 : decode cL_led 2 = .ok (.aload_n 0, 1) := by decide +kernel
theorem dL_led_3 : decode cL_led 3 = .ok (.iload_n 1, 1) := by decide +kernel
theorem dL_led_4 : decode cL_led 4 = .ok (.invokevirtual 7, 3) := by decide +kernel
theorem dL_led_7 : decode cL_led 7 = .ok (.i2l, 1) := by decide +kernel
theorem dL_led_8 : decode cL_led 8 = .ok (.lastore, 1) := by decide +kernel
theorem dL_led_9 : decode cL_led 9 = .ok (.goto 6, 3) := by decide +kernel
theorem dL_led_12 : decode cL_led 12 = .ok (.astore_n 3, 1) := by decide +kernel
theorem dL_led_13 : decode cL_led 13 = .ok (.iconst 1, 1) := by decide +kernel
theorem dL_led_14 : decode cL_led 14 = .ok (.ireturn, 1) := by decide +kernel
theorem dL_led_15 : decode cL_led 15 = .ok (.iconst 0, 1) := by decide +kernel
theorem dL_led_16 : decode cL_led 16 = .ok (.ireturn, 1) := by decide +kernel
theorem dL_law_0 : decode cL_law 0 = .ok (.new 8, 3) := by decide +kernel
theorem dL_law_3 : decode cL_law 3 = .ok (.dup, 1) := by decide +kernel
theorem dL_law_4 : decode cL_law 4 = .ok (.invokespecial 15, 3) := by decide +kernel
theorem dL_law_7 : decode cL_law 7 = .ok (.astore_n 1, 1) := by decide +kernel
theorem dL_law_8 : decode cL_law 8 = .ok (.new 16, 3) := by decide +kernel
theorem dL_law_11 : decode cL_law 11 = .ok (.dup, 1) := by decide +kernel
theorem dL_law_12 : decode cL_law 12 = .ok (.invokespecial 18, 3) := by decide +kernel
theorem dL_law_15 : decode cL_law 15 = .ok (.astore_n 2, 1) := by decide +kernel
theorem dL_law_16 : decode cL_law 16 = .ok (.iconst 1, 1) := by decide +kernel
theorem dL_law_17 : decode cL_law 17 = .ok (.newarray .long, 2) := by decide +kernel
theorem dL_law_19 : decode cL_law 19 = .ok (.astore_n 3, 1) := by decide +kernel
theorem dL_law_20 : decode cL_law 20 = .ok (.iconst 0, 1) := by decide +kernel
theorem dL_law_21 : decode cL_law 21 = .ok (.istore 4, 2) := by decide +kernel
theorem dL_law_23 : decode cL_law 23 = .ok (.iload 4, 2) := by decide +kernel
theorem dL_law_25 : decode cL_law 25 = .ok (.aload_n 0, 1) := by decide +kernel
theorem dL_law_26 : decode cL_law 26 = .ok (.arraylength, 1) := by decide +kernel
theorem dL_law_27 : decode cL_law 27 = .ok (.bipush 6, 2) := by decide +kernel
theorem dL_law_29 : decode cL_law 29 = .ok (.isub, 1) := by decide +kernel
theorem dL_law_30 : decode cL_law 30 = .ok (.if_icmp .gt 1432, 3) := by decide +kernel
theorem dL_law_33 : decode cL_law 33 = .ok (.aload_n 0, 1) := by decide +kernel
theorem dL_law_34 : decode cL_law 34 = .ok (.iload 4, 2) := by decide +kernel
theorem dL_law_36 : decode cL_law 36 = .ok (.iaload, 1) := by decide +kernel
theorem dL_law_37 : decode cL_law 37 = .ok (.bipush 31, 2) := by decide +kernel
theorem dL_law_39 : decode cL_law 39 = .ok (.iand, 1) := by decide +kernel
theorem dL_law_40 : decode cL_law 40 = .ok (.tableswitch 1416 0 29 #[136, 209, 234, 247, 260, 338, 416, 506, 584, 621, 686, 752, 813, 850, 899, 977, 990, 1015, 1052, 1077, 1131, 1156, 1181, 1194, 1207, 1232, 1269, 1322, 1378, 1403], 136) := by decide +kernel
theorem dL_law_176 : decode cL_law 176 = .ok (.aload_n 1, 1) := by decide +kernel
theorem dL_law_177 : decode cL_law 177 = .ok (.aload_n 0, 1) := by decide +kernel
theorem dL_law_178 : decode cL_law 178 = .ok (.iload 4, 2) := by decide +kernel
theorem dL_law_180 : decode cL_law 180 = .ok (.iconst 1, 1) := by decide +kernel
theorem dL_law_181 : decode cL_law 181 = .ok (.iadd, 1) := by decide +kernel
theorem dL_law_182 : decode cL_law 182 = .ok (.iaload, 1) := by decide +kernel
theorem dL_law_183 : decode cL_law 183 = .ok (.aload_n 0, 1) := by decide +kernel
theorem dL_law_184 : decode cL_law 184 = .ok (.iload 4, 2) := by decide +kernel
theorem dL_law_186 : decode cL_law 186 = .ok (.iconst 2, 1) := by decide +kernel
theorem dL_law_187 : decode cL_law 187 = .ok (.iadd, 1) := by decide +kernel
theorem dL_law_188 : decode cL_law 188 = .ok (.iaload, 1) := by decide +kernel
theorem dL_law_189 : decode cL_law 189 = .ok (.aload_n 0, 1) := by decide +kernel
theorem dL_law_190 : decode cL_law 190 = .ok (.iload 4, 2) := by decide +kernel
theorem dL_law_192 : decode cL_law 192 = .ok (.iconst 3, 1) := by decide +kernel
theorem dL_law_193 : decode cL_law 193 = .ok (.iadd, 1) := by decide +kernel
theorem dL_law_194 : decode cL_law 194 = .ok (.iaload, 1) := by decide +kernel
theorem dL_law_195 : decode cL_law 195 = .ok (.aload_n 0, 1) := by decide +kernel
theorem dL_law_196 : decode cL_law 196 = .ok (.iload 4, 2) := by decide +kernel
theorem dL_law_198 : decode cL_law 198 = .ok (.iconst 4, 1) := by decide +kernel
theorem dL_law_199 : decode cL_law 199 = .ok (.iadd, 1) := by decide +kernel
theorem dL_law_200 : decode cL_law 200 = .ok (.iaload, 1) := by decide +kernel
theorem dL_law_201 : decode cL_law 201 = .ok (.aload_n 0, 1) := by decide +kernel
theorem dL_law_202 : decode cL_law 202 = .ok (.iload 4, 2) := by decide +kernel
theorem dL_law_204 : decode cL_law 204 = .ok (.iconst 5, 1) := by decide +kernel
theorem dL_law_205 : decode cL_law 205 = .ok (.iadd, 1) := by decide +kernel
theorem dL_law_206 : decode cL_law 206 = .ok (.iaload, 1) := by decide +kernel
theorem dL_law_207 : decode cL_law 207 = .ok (.invokevirtual 19, 3) := by decide +kernel
theorem dL_law_210 : decode cL_law 210 = .ok (.aload_n 2, 1) := by decide +kernel
theorem dL_law_211 : decode cL_law 211 = .ok (.aload_n 0, 1) := by decide +kernel
theorem dL_law_212 : decode cL_law 212 = .ok (.iload 4, 2) := by decide +kernel
theorem dL_law_214 : decode cL_law 214 = .ok (.iconst 1, 1) := by decide +kernel
theorem dL_law_215 : decode cL_law 215 = .ok (.iadd, 1) := by decide +kernel
theorem dL_law_216 : decode cL_law 216 = .ok (.iaload, 1) := by decide +kernel
theorem dL_law_217 : decode cL_law 217 = .ok (.aload_n 0, 1) := by decide +kernel
theorem dL_law_218 : decode cL_law 218 = .ok (.iload 4, 2) := by decide +kernel
theorem dL_law_220 : decode cL_law 220 = .ok (.iconst 2, 1) := by decide +kernel
theorem dL_law_221 : decode cL_law 221 = .ok (.iadd, 1) := by decide +kernel
theorem dL_law_222 : decode cL_law 222 = .ok (.iaload, 1) := by decide +kernel
theorem dL_law_223 : decode cL_law 223 = .ok (.aload_n 0, 1) := by decide +kernel
theorem dL_law_224 : decode cL_law 224 = .ok (.iload 4, 2) := by decide +kernel
theorem dL_law_226 : decode cL_law 226 = .ok (.iconst 3, 1) := by decide +kernel
theorem dL_law_227 : decode cL_law 227 = .ok (.iadd, 1) := by decide +kernel
theorem dL_law_228 : decode cL_law 228 = .ok (.iaload, 1) := by decide +kernel
theorem dL_law_229 : decode cL_law 229 = .ok (.aload_n 0, 1) := by decide +kernel
theorem dL_law_230 : decode cL_law 230 = .ok (.iload 4, 2) := by decide +kernel
theorem dL_law_232 : decode cL_law 232 = .ok (.iconst 4, 1) := by decide +kernel
theorem dL_law_233 : decode cL_law 233 = .ok (.iadd, 1) := by decide +kernel
theorem dL_law_234 : decode cL_law 234 = .ok (.iaload, 1) := by decide +kernel
theorem dL_law_235 : decode cL_law 235 = .ok (.aload_n 0, 1) := by decide +kernel
theorem dL_law_236 : decode cL_law 236 = .ok (.iload 4, 2) := by decide +kernel
theorem dL_law_238 : decode cL_law 238 = .ok (.iconst 5, 1) := by decide +kernel
theorem dL_law_239 : decode cL_law 239 = .ok (.iadd, 1) := by decide +kernel
theorem dL_law_240 : decode cL_law 240 = .ok (.iaload, 1) := by decide +kernel
theorem dL_law_241 : decode cL_law 241 = .ok (.invokevirtual 23, 3) := by decide +kernel
theorem dL_law_244 : decode cL_law 244 = .ok (.if_icmp .eq 1212, 3) := by decide +kernel
theorem dL_law_247 : decode cL_law 247 = .ok (.iconst 0, 1) := by decide +kernel
theorem dL_law_248 : decode cL_law 248 = .ok (.ireturn, 1) := by decide +kernel
theorem dL_law_249 : decode cL_law 249 = .ok (.aload_n 1, 1) := by decide +kernel
theorem dL_law_250 : decode cL_law 250 = .ok (.aload_n 0, 1) := by decide +kernel
theorem dL_law_251 : decode cL_law 251 = .ok (.iload 4, 2) := by decide +kernel
theorem dL_law_253 : decode cL_law 253 = .ok (.iconst 1, 1) := by decide +kernel
theorem dL_law_254 : decode cL_law 254 = .ok (.iadd, 1) := by decide +kernel
theorem dL_law_255 : decode cL_law 255 = .ok (.iaload, 1) := by decide +kernel
theorem dL_law_256 : decode cL_law 256 = .ok (.invokevirtual 24, 3) := by decide +kernel
theorem dL_law_259 : decode cL_law 259 = .ok (.aload_n 2, 1) := by decide +kernel
theorem dL_law_260 : decode cL_law 260 = .ok (.aload_n 0, 1) := by decide +kernel
theorem dL_law_261 : decode cL_law 261 = .ok (.iload 4, 2) := by decide +kernel
theorem dL_law_263 : decode cL_law 263 = .ok (.iconst 1, 1) := by decide +kernel
theorem dL_law_264 : decode cL_law 264 = .ok (.iadd, 1) := by decide +kernel
theorem dL_law_265 : decode cL_law 265 = .ok (.iaload, 1) := by decide +kernel
theorem dL_law_266 : decode cL_law 266 = .ok (.invokevirtual 27, 3) := by decide +kernel
theorem dL_law_269 : decode cL_law 269 = .ok (.if_icmp .eq 1187, 3) := by decide +kernel
theorem dL_law_272 : decode cL_law 272 = .ok (.iconst 0, 1) := by decide +kernel
theorem dL_law_273 : decode cL_law 273 = .ok (.ireturn, 1) := by decide +kernel
theorem dL_law_274 : decode cL_law 274 = .ok (.aload_n 1, 1) := by decide +kernel
theorem dL_law_275 : decode cL_law 275 = .ok (.invokevirtual 28, 3) := by decide +kernel
theorem dL_law_278 : decode cL_law 278 = .ok (.aload_n 2, 1) := by decide +kernel
theorem dL_law_279 : decode cL_law 279 = .ok (.invokevirtual 32, 3) := by decide +kernel
theorem dL_law_282 : decode cL_law 282 = .ok (.if_icmp .eq 1174, 3) := by decide +kernel
theorem dL_law_285 : decode cL_law 285 = .ok (.iconst 0, 1) := by decide +kernel
theorem dL_law_286 : decode cL_law 286 = .ok (.ireturn, 1) := by decide +kernel
theorem dL_law_287 : decode cL_law 287 = .ok (.aload_n 1, 1) := by decide +kernel
theorem dL_law_288 : decode cL_law 288 = .ok (.invokevirtual 33, 3) := by decide +kernel
theorem dL_law_291 : decode cL_law 291 = .ok (.aload_n 2, 1) := by decide +kernel
theorem dL_law_292 : decode cL_law 292 = .ok (.invokevirtual 36, 3) := by decide +kernel
theorem dL_law_295 : decode cL_law 295 = .ok (.if_icmp .eq 1161, 3) := by decide +kernel
theorem dL_law_298 : decode cL_law 298 = .ok (.iconst 0, 1) := by decide +kernel
theorem dL_law_299 : decode cL_law 299 = .ok (.ireturn, 1) := by decide +kernel
theorem dL_law_300 : decode cL_law 300 = .ok (.aload_n 1, 1) := by decide +kernel
theorem dL_law_301 : decode cL_law 301 = .ok (.aload_n 0, 1) := by decide +kernel
theorem dL_law_302 : decode cL_law 302 = .ok (.iload 4, 2) := by decide +kernel
theorem dL_law_304 : decode cL_law 304 = .ok (.iconst 1, 1) := by decide +kernel
theorem dL_law_305 : decode cL_law 305 = .ok (.iadd, 1) := by decide +kernel
theorem dL_law_306 : decode cL_law 306 = .ok (.iaload, 1) := by decide +kernel
theorem dL_law_307 : decode cL_law 307 = .ok (.aload_n 0, 1) := by decide +kernel
theorem dL_law_308 : decode cL_law 308 = .ok (.iload 4, 2) := by decide +kernel
theorem dL_law_310 : decode cL_law 310 = .ok (.iconst 2, 1) := by decide +kernel
theorem dL_law_311 : decode cL_law 311 = .ok (.iadd, 1) := by decide +kernel
theorem dL_law_312 : decode cL_law 312 = .ok (.iaload, 1) := by decide +kernel
theorem dL_law_313 : decode cL_law 313 = .ok (.aload_n 0, 1) := by decide +kernel
theorem dL_law_314 : decode cL_law 314 = .ok (.iload 4, 2) := by decide +kernel
theorem dL_law_316 : decode cL_law 316 = .ok (.iconst 3, 1) := by decide +kernel
theorem dL_law_317 : decode cL_law 317 = .ok (.iadd, 1) := by decide +kernel
theorem dL_law_318 : decode cL_law 318 = .ok (.iaload, 1) := by decide +kernel
theorem dL_law_319 : decode cL_law 319 = .ok (.aload_n 0, 1) := by decide +kernel
theorem dL_law_320 : decode cL_law 320 = .ok (.iload 4, 2) := by decide +kernel
theorem dL_law_322 : decode cL_law 322 = .ok (.iconst 4, 1) := by decide +kernel
theorem dL_law_323 : decode cL_law 323 = .ok (.iadd, 1) := by decide +kernel
theorem dL_law_324 : decode cL_law 324 = .ok (.iaload, 1) := by decide +kernel
theorem dL_law_325 : decode cL_law 325 = .ok (.ifCond .eq 7, 3) := by decide +kernel
theorem dL_law_328 : decode cL_law 328 = .ok (.iconst 1, 1) := by decide +kernel
theorem dL_law_329 : decode cL_law 329 = .ok (.goto 4, 3) := by decide +kernel
theorem dL_law_332 : decode cL_law 332 = .ok (.iconst 0, 1) := by decide +kernel
theorem dL_law_333 : decode cL_law 333 = .ok (.invokevirtual 37, 3) := by decide +kernel
theorem dL_law_336 : decode cL_law 336 = .ok (.aload_n 2, 1) := by decide +kernel
theorem dL_law_337 : decode cL_law 337 = .ok (.aload_n 0, 1) := by decide +kernel
theorem dL_law_338 : decode cL_law 338 = .ok (.iload 4, 2) := by decide +kernel
theorem dL_law_340 : decode cL_law 340 = .ok (.iconst 1, 1) := by decide +kernel
theorem dL_law_341 : decode cL_law 341 = .ok (.iadd, 1) := by decide +kernel
theorem dL_law_342 : decode cL_law 342 = .ok (.iaload, 1) := by decide +kernel
theorem dL_law_343 : decode cL_law 343 = .ok (.aload_n 0, 1) := by decide +kernel
theorem dL_law_344 : decode cL_law 344 = .ok (.iload 4, 2) := by decide +kernel
theorem dL_law_346 : decode cL_law 346 = .ok (.iconst 2, 1) := by decide +kernel
theorem dL_law_347 : decode cL_law 347 = .ok (.iadd, 1) := by decide +kernel
theorem dL_law_348 : decode cL_law 348 = .ok (.iaload, 1) := by decide +kernel
theorem dL_law_349 : decode cL_law 349 = .ok (.aload_n 0, 1) := by decide +kernel
theorem dL_law_350 : decode cL_law 350 = .ok (.iload 4, 2) := by decide +kernel
theorem dL_law_352 : decode cL_law 352 = .ok (.iconst 3, 1) := by decide +kernel
theorem dL_law_353 : decode cL_law 353 = .ok (.iadd, 1) := by decide +kernel
theorem dL_law_354 : decode cL_law 354 = .ok (.iaload, 1) := by decide +kernel
theorem dL_law_355 : decode cL_law 355 = .ok (.aload_n 0, 1) := by decide +kernel
theorem dL_law_356 : decode cL_law 356 = .ok (.iload 4, 2) := by decide +kernel
theorem dL_law_358 : decode cL_law 358 = .ok (.iconst 4, 1) := by decide +kernel
theorem dL_law_359 : decode cL_law 359 = .ok (.iadd, 1) := by decide +kernel
theorem dL_law_360 : decode cL_law 360 = .ok (.iaload, 1) := by decide +kernel
theorem dL_law_361 : decode cL_law 361 = .ok (.ifCond .eq 7, 3) := by decide +kernel
theorem dL_law_364 : decode cL_law 364 = .ok (.iconst 1, 1) := by decide +kernel
theorem dL_law_365 : decode cL_law 365 = .ok (.goto 4, 3) := by decide +kernel
theorem dL_law_368 : decode cL_law 368 = .ok (.iconst 0, 1) := by decide +kernel
theorem dL_law_369 : decode cL_law 369 = .ok (.invokevirtual 41, 3) := by decide +kernel
theorem dL_law_372 : decode cL_law 372 = .ok (.lcmp, 1) := by decide +kernel
theorem dL_law_373 : decode cL_law 373 = .ok (.ifCond .eq 1083, 3) := by decide +kernel
theorem dL_law_376 : decode cL_law 376 = .ok (.iconst 0, 1) := by decide +kernel
theorem dL_law_377 : decode cL_law 377 = .ok (.ireturn, 1) := by decide +kernel
theorem dL_law_378 : decode cL_law 378 = .ok (.aload_n 1, 1) := by decide +kernel
theorem dL_law_379 : decode cL_law 379 = .ok (.aload_n 0, 1) := by decide +kernel
theorem dL_law_380 : decode cL_law 380 = .ok (.iload 4, 2) := by decide +kernel
theorem dL_law_382 : decode cL_law 382 = .ok (.iconst 1, 1) := by decide +kernel
theorem dL_law_383 : decode cL_law 383 = .ok (.iadd, 1) := by decide +kernel
theorem dL_law_384 : decode cL_law 384 = .ok (.iaload, 1) := by decide +kernel
theorem dL_law_385 : decode cL_law 385 = .ok (.aload_n 0, 1) := by decide +kernel
theorem dL_law_386 : decode cL_law 386 = .ok (.iload 4, 2) := by decide +kernel
theorem dL_law_388 : decode cL_law 388 = .ok (.iconst 2, 1) := by decide +kernel
theorem dL_law_389 : decode cL_law 389 = .ok (.iadd, 1) := by decide +kernel
theorem dL_law_390 : decode cL_law 390 = .ok (.iaload, 1) := by decide +kernel
theorem dL_law_391 : decode cL_law 391 = .ok (.aload_n 0, 1) := by decide +kernel
theorem dL_law_392 : decode cL_law 392 = .ok (.iload 4, 2) := by decide +kernel
theorem dL_law_394 : decode cL_law 394 = .ok (.iconst 3, 1) := by decide +kernel
theorem dL_law_395 : decode cL_law 395 = .ok (.iadd, 1) := by decide +kernel
theorem dL_law_396 : decode cL_law 396 = .ok (.iaload, 1) := by decide +kernel
theorem dL_law_397 : decode cL_law 397 = .ok (.aload_n 0, 1) := by decide +kernel
theorem dL_law_398 : decode cL_law 398 = .ok (.iload 4, 2) := by decide +kernel
theorem dL_law_400 : decode cL_law 400 = .ok (.iconst 4, 1) := by decide +kernel
theorem dL_law_401 : decode cL_law 401 = .ok (.iadd, 1) := by decide +kernel
theorem dL_law_402 : decode cL_law 402 = .ok (.iaload, 1) := by decide +kernel
theorem dL_law_403 : decode cL_law 403 = .ok (.ifCond .eq 7, 3) := by decide +kernel
theorem dL_law_406 : decode cL_law 406 = .ok (.iconst 1, 1) := by decide +kernel
theorem dL_law_407 : decode cL_law 407 = .ok (.goto 4, 3) := by decide +kernel
theorem dL_law_410 : decode cL_law 410 = .ok (.iconst 0, 1) := by decide +kernel
theorem dL_law_411 : decode cL_law 411 = .ok (.invokevirtual 42, 3) := by decide +kernel
theorem dL_law_414 : decode cL_law 414 = .ok (.aload_n 2, 1) := by decide +kernel
theorem dL_law_415 : decode cL_law 415 = .ok (.aload_n 0, 1) := by decide +kernel
theorem dL_law_416 : decode cL_law 416 = .ok (.iload 4, 2) := by decide +kernel
theorem dL_law_418 : decode cL_law 418 = .ok (.iconst 1, 1) := by decide +kernel
theorem dL_law_419 : decode cL_law 419 = .ok (.iadd, 1) := by decide +kernel
theorem dL_law_420 : decode cL_law 420 = .ok (.iaload, 1) := by decide +kernel
theorem dL_law_421 : decode cL_law 421 = .ok (.aload_n 0, 1) := by decide +kernel
theorem dL_law_422 : decode cL_law 422 = .ok (.iload 4, 2) := by decide +kernel
theorem dL_law_424 : decode cL_law 424 = .ok (.iconst 2, 1) := by decide +kernel
theorem dL_law_425 : decode cL_law 425 = .ok (.iadd, 1) := by decide +kernel
theorem dL_law_426 : decode cL_law 426 = .ok (.iaload, 1) := by decide +kernel
theorem dL_law_427 : decode cL_law 427 = .ok (.aload_n 0, 1) := by decide +kernel
theorem dL_law_428 : decode cL_law 428 = .ok (.iload 4, 2) := by decide +kernel
theorem dL_law_430 : decode cL_law 430 = .ok (.iconst 3, 1) := by decide +kernel
theorem dL_law_431 : decode cL_law 431 = .ok (.iadd, 1) := by decide +kernel
theorem dL_law_432 : decode cL_law 432 = .ok (.iaload, 1) := by decide +kernel
theorem dL_law_433 : decode cL_law 433 = .ok (.aload_n 0, 1) := by decide +kernel
theorem dL_law_434 : decode cL_law 434 = .ok (.iload 4, 2) := by decide +kernel
theorem dL_law_436 : decode cL_law 436 = .ok (.iconst 4, 1) := by decide +kernel
theorem dL_law_437 : decode cL_law 437 = .ok (.iadd, 1) := by decide +kernel
theorem dL_law_438 : decode cL_law 438 = .ok (.iaload, 1) := by decide +kernel
theorem dL_law_439 : decode cL_law 439 = .ok (.ifCond .eq 7, 3) := by decide +kernel
theorem dL_law_442 : decode cL_law 442 = .ok (.iconst 1, 1) := by decide +kernel
theorem dL_law_443 : decode cL_law 443 = .ok (.goto 4, 3) := by decide +kernel
theorem dL_law_446 : decode cL_law 446 = .ok (.iconst 0, 1) := by decide +kernel
theorem dL_law_447 : decode cL_law 447 = .ok (.invokevirtual 45, 3) := by decide +kernel
theorem dL_law_450 : decode cL_law 450 = .ok (.lcmp, 1) := by decide +kernel
theorem dL_law_451 : decode cL_law 451 = .ok (.ifCond .eq 1005, 3) := by decide +kernel
theorem dL_law_454 : decode cL_law 454 = .ok (.iconst 0, 1) := by decide +kernel
theorem dL_law_455 : decode cL_law 455 = .ok (.ireturn, 1) := by decide +kernel
theorem dL_law_456 : decode cL_law 456 = .ok (.aload_n 1, 1) := by decide +kernel
theorem dL_law_457 : decode cL_law 457 = .ok (.aload_n 0, 1) := by decide +kernel
theorem dL_law_458 : decode cL_law 458 = .ok (.iload 4, 2) := by decide +kernel
theorem dL_law_460 : decode cL_law 460 = .ok (.iconst 1, 1) := by decide +kernel
theorem dL_law_461 : decode cL_law 461 = .ok (.iadd, 1) := by decide +kernel
theorem dL_law_462 : decode cL_law 462 = .ok (.iaload, 1) := by decide +kernel
theorem dL_law_463 : decode cL_law 463 = .ok (.aload_n 0, 1) := by decide +kernel
theorem dL_law_464 : decode cL_law 464 = .ok (.iload 4, 2) := by decide +kernel
theorem dL_law_466 : decode cL_law 466 = .ok (.iconst 2, 1) := by decide +kernel
theorem dL_law_467 : decode cL_law 467 = .ok (.iadd, 1) := by decide +kernel
theorem dL_law_468 : decode cL_law 468 = .ok (.iaload, 1) := by decide +kernel
theorem dL_law_469 : decode cL_law 469 = .ok (.aload_n 0, 1) := by decide +kernel
theorem dL_law_470 : decode cL_law 470 = .ok (.iload 4, 2) := by decide +kernel
theorem dL_law_472 : decode cL_law 472 = .ok (.iconst 3, 1) := by decide +kernel
theorem dL_law_473 : decode cL_law 473 = .ok (.iadd, 1) := by decide +kernel
theorem dL_law_474 : decode cL_law 474 = .ok (.iaload, 1) := by decide +kernel
theorem dL_law_475 : decode cL_law 475 = .ok (.aload_n 0, 1) := by decide +kernel
theorem dL_law_476 : decode cL_law 476 = .ok (.iload 4, 2) := by decide +kernel
theorem dL_law_478 : decode cL_law 478 = .ok (.iconst 4, 1) := by decide +kernel
theorem dL_law_479 : decode cL_law 479 = .ok (.iadd, 1) := by decide +kernel
theorem dL_law_480 : decode cL_law 480 = .ok (.iaload, 1) := by decide +kernel
theorem dL_law_481 : decode cL_law 481 = .ok (.aload_n 0, 1) := by decide +kernel
theorem dL_law_482 : decode cL_law 482 = .ok (.iload 4, 2) := by decide +kernel
theorem dL_law_484 : decode cL_law 484 = .ok (.iconst 5, 1) := by decide +kernel
theorem dL_law_485 : decode cL_law 485 = .ok (.iadd, 1) := by decide +kernel
theorem dL_law_486 : decode cL_law 486 = .ok (.iaload, 1) := by decide +kernel
theorem dL_law_487 : decode cL_law 487 = .ok (.ifCond .eq 7, 3) := by decide +kernel
theorem dL_law_490 : decode cL_law 490 = .ok (.iconst 1, 1) := by decide +kernel
theorem dL_law_491 : decode cL_law 491 = .ok (.goto 4, 3) := by decide +kernel
theorem dL_law_494 : decode cL_law 494 = .ok (.iconst 0, 1) := by decide +kernel
theorem dL_law_495 : decode cL_law 495 = .ok (.invokevirtual 46, 3) := by decide +kernel
theorem dL_law_498 : decode cL_law 498 = .ok (.aload_n 2, 1) := by decide +kernel
theorem dL_law_499 : decode cL_law 499 = .ok (.aload_n 0, 1) := by decide +kernel
theorem dL_law_500 : decode cL_law 500 = .ok (.iload 4, 2) := by decide +kernel
theorem dL_law_502 : decode cL_law 502 = .ok (.iconst 1, 1) := by decide +kernel
theorem dL_law_503 : decode cL_law 503 = .ok (.iadd, 1) := by decide +kernel
theorem dL_law_504 : decode cL_law 504 = .ok (.iaload, 1) := by decide +kernel
theorem dL_law_505 : decode cL_law 505 = .ok (.aload_n 0, 1) := by decide +kernel
theorem dL_law_506 : decode cL_law 506 = .ok (.iload 4, 2) := by decide +kernel
theorem dL_law_508 : decode cL_law 508 = .ok (.iconst 2, 1) := by decide +kernel
theorem dL_law_509 : decode cL_law 509 = .ok (.iadd, 1) := by decide +kernel
theorem dL_law_510 : decode cL_law 510 = .ok (.iaload, 1) := by decide +kernel
theorem dL_law_511 : decode cL_law 511 = .ok (.aload_n 0, 1) := by decide +kernel
theorem dL_law_512 : decode cL_law 512 = .ok (.iload 4, 2) := by decide +kernel
theorem dL_law_514 : decode cL_law 514 = .ok (.iconst 3, 1) := by decide +kernel
theorem dL_law_515 : decode cL_law 515 = .ok (.iadd, 1) := by decide +kernel
theorem dL_law_516 : decode cL_law 516 = .ok (.iaload, 1) := by decide +kernel
theorem dL_law_517 : decode cL_law 517 = .ok (.aload_n 0, 1) := by decide +kernel
theorem dL_law_518 : decode cL_law 518 = .ok (.iload 4, 2) := by decide +kernel
theorem dL_law_520 : decode cL_law 520 = .ok (.iconst 4, 1) := by decide +kernel
theorem dL_law_521 : decode cL_law 521 = .ok (.iadd, 1) := by decide +kernel
theorem dL_law_522 : decode cL_law 522 = .ok (.iaload, 1) := by decide +kernel
theorem dL_law_523 : decode cL_law 523 = .ok (.aload_n 0, 1) := by decide +kernel
theorem dL_law_524 : decode cL_law 524 = .ok (.iload 4, 2) := by decide +kernel
theorem dL_law_526 : decode cL_law 526 = .ok (.iconst 5, 1) := by decide +kernel
theorem dL_law_527 : decode cL_law 527 = .ok (.iadd, 1) := by decide +kernel
theorem dL_law_528 : decode cL_law 528 = .ok (.iaload, 1) := by decide +kernel
theorem dL_law_529 : decode cL_law 529 = .ok (.ifCond .eq 7, 3) := by decide +kernel
theorem dL_law_532 : decode cL_law 532 = .ok (.iconst 1, 1) := by decide +kernel
theorem dL_law_533 : decode cL_law 533 = .ok (.goto 4, 3) := by decide +kernel
theorem dL_law_536 : decode cL_law 536 = .ok (.iconst 0, 1) := by decide +kernel
theorem dL_law_537 : decode cL_law 537 = .ok (.invokevirtual 50, 3) := by decide +kernel
theorem dL_law_540 : decode cL_law 540 = .ok (.lcmp, 1) := by decide +kernel
theorem dL_law_541 : decode cL_law 541 = .ok (.ifCond .eq 915, 3) := by decide +kernel
theorem dL_law_544 : decode cL_law 544 = .ok (.iconst 0, 1) := by decide +kernel
theorem dL_law_545 : decode cL_law 545 = .ok (.ireturn, 1) := by decide +kernel
theorem dL_law_546 : decode cL_law 546 = .ok (.aload_n 1, 1) := by decide +kernel
theorem dL_law_547 : decode cL_law 547 = .ok (.aload_n 0, 1) := by decide +kernel
theorem dL_law_548 : decode cL_law 548 = .ok (.iload 4, 2) := by decide +kernel
theorem dL_law_550 : decode cL_law 550 = .ok (.iconst 1, 1) := by decide +kernel
theorem dL_law_551 : decode cL_law 551 = .ok (.iadd, 1) := by decide +kernel
theorem dL_law_552 : decode cL_law 552 = .ok (.iaload, 1) := by decide +kernel
theorem dL_law_553 : decode cL_law 553 = .ok (.aload_n 0, 1) := by decide +kernel
theorem dL_law_554 : decode cL_law 554 = .ok (.iload 4, 2) := by decide +kernel
theorem dL_law_556 : decode cL_law 556 = .ok (.iconst 2, 1) := by decide +kernel
theorem dL_law_557 : decode cL_law 557 = .ok (.iadd, 1) := by decide +kernel
theorem dL_law_558 : decode cL_law 558 = .ok (.iaload, 1) := by decide +kernel
theorem dL_law_559 : decode cL_law 559 = .ok (.aload_n 0, 1) := by decide +kernel
theorem dL_law_560 : decode cL_law 560 = .ok (.iload 4, 2) := by decide +kernel
theorem dL_law_562 : decode cL_law 562 = .ok (.iconst 3, 1) := by decide +kernel
theorem dL_law_563 : decode cL_law 563 = .ok (.iadd, 1) := by decide +kernel
theorem dL_law_564 : decode cL_law 564 = .ok (.iaload, 1) := by decide +kernel
theorem dL_law_565 : decode cL_law 565 = .ok (.aload_n 0, 1) := by decide +kernel
theorem dL_law_566 : decode cL_law 566 = .ok (.iload 4, 2) := by decide +kernel
theorem dL_law_568 : decode cL_law 568 = .ok (.iconst 4, 1) := by decide +kernel
theorem dL_law_569 : decode cL_law 569 = .ok (.iadd, 1) := by decide +kernel
theorem dL_law_570 : decode cL_law 570 = .ok (.iaload, 1) := by decide +kernel
theorem dL_law_571 : decode cL_law 571 = .ok (.ifCond .eq 7, 3) := by decide +kernel
theorem dL_law_574 : decode cL_law 574 = .ok (.iconst 1, 1) := by decide +kernel
theorem dL_law_575 : decode cL_law 575 = .ok (.goto 4, 3) := by decide +kernel
theorem dL_law_578 : decode cL_law 578 = .ok (.iconst 0, 1) := by decide +kernel
theorem dL_law_579 : decode cL_law 579 = .ok (.invokevirtual 51, 3) := by decide +kernel
theorem dL_law_582 : decode cL_law 582 = .ok (.aload_n 2, 1) := by decide +kernel
theorem dL_law_583 : decode cL_law 583 = .ok (.aload_n 0, 1) := by decide +kernel
theorem dL_law_584 : decode cL_law 584 = .ok (.iload 4, 2) := by decide +kernel
theorem dL_law_586 : decode cL_law 586 = .ok (.iconst 1, 1) := by decide +kernel
theorem dL_law_587 : decode cL_law 587 = .ok (.iadd, 1) := by decide +kernel
theorem dL_law_588 : decode cL_law 588 = .ok (.iaload, 1) := by decide +kernel
theorem dL_law_589 : decode cL_law 589 = .ok (.aload_n 0, 1) := by decide +kernel
theorem dL_law_590 : decode cL_law 590 = .ok (.iload 4, 2) := by decide +kernel
theorem dL_law_592 : decode cL_law 592 = .ok (.iconst 2, 1) := by decide +kernel
theorem dL_law_593 : decode cL_law 593 = .ok (.iadd, 1) := by decide +kernel
theorem dL_law_594 : decode cL_law 594 = .ok (.iaload, 1) := by decide +kernel
theorem dL_law_595 : decode cL_law 595 = .ok (.aload_n 0, 1) := by decide +kernel
theorem dL_law_596 : decode cL_law 596 = .ok (.iload 4, 2) := by decide +kernel
theorem dL_law_598 : decode cL_law 598 = .ok (.iconst 3, 1) := by decide +kernel
theorem dL_law_599 : decode cL_law 599 = .ok (.iadd, 1) := by decide +kernel
theorem dL_law_600 : decode cL_law 600 = .ok (.iaload, 1) := by decide +kernel
theorem dL_law_601 : decode cL_law 601 = .ok (.aload_n 0, 1) := by decide +kernel
theorem dL_law_602 : decode cL_law 602 = .ok (.iload 4, 2) := by decide +kernel
theorem dL_law_604 : decode cL_law 604 = .ok (.iconst 4, 1) := by decide +kernel
theorem dL_law_605 : decode cL_law 605 = .ok (.iadd, 1) := by decide +kernel
theorem dL_law_606 : decode cL_law 606 = .ok (.iaload, 1) := by decide +kernel
theorem dL_law_607 : decode cL_law 607 = .ok (.ifCond .eq 7, 3) := by decide +kernel
theorem dL_law_610 : decode cL_law 610 = .ok (.iconst 1, 1) := by decide +kernel
theorem dL_law_611 : decode cL_law 611 = .ok (.goto 4, 3) := by decide +kernel
theorem dL_law_614 : decode cL_law 614 = .ok (.iconst 0, 1) := by decide +kernel
theorem dL_law_615 : decode cL_law 615 = .ok (.invokevirtual 54, 3) := by decide +kernel
theorem dL_law_618 : decode cL_law 618 = .ok (.lcmp, 1) := by decide +kernel
theorem dL_law_619 : decode cL_law 619 = .ok (.ifCond .eq 837, 3) := by decide +kernel
theorem dL_law_622 : decode cL_law 622 = .ok (.iconst 0, 1) := by decide +kernel
theorem dL_law_623 : decode cL_law 623 = .ok (.ireturn, 1) := by decide +kernel
theorem dL_law_624 : decode cL_law 624 = .ok (.aload_n 1, 1) := by decide +kernel
theorem dL_law_625 : decode cL_law 625 = .ok (.aload_n 0, 1) := by decide +kernel
theorem dL_law_626 : decode cL_law 626 = .ok (.iload 4, 2) := by decide +kernel
theorem dL_law_628 : decode cL_law 628 = .ok (.iconst 1, 1) := by decide +kernel
theorem dL_law_629 : decode cL_law 629 = .ok (.iadd, 1) := by decide +kernel
theorem dL_law_630 : decode cL_law 630 = .ok (.iaload, 1) := by decide +kernel
theorem dL_law_631 : decode cL_law 631 = .ok (.aload_n 0, 1) := by decide +kernel
theorem dL_law_632 : decode cL_law 632 = .ok (.iload 4, 2) := by decide +kernel
theorem dL_law_634 : decode cL_law 634 = .ok (.iconst 2, 1) := by decide +kernel
theorem dL_law_635 : decode cL_law 635 = .ok (.iadd, 1) := by decide +kernel
theorem dL_law_636 : decode cL_law 636 = .ok (.iaload, 1) := by decide +kernel
theorem dL_law_637 : decode cL_law 637 = .ok (.invokevirtual 55, 3) := by decide +kernel
theorem dL_law_640 : decode cL_law 640 = .ok (.aload_n 2, 1) := by decide +kernel
theorem dL_law_641 : decode cL_law 641 = .ok (.aload_n 0, 1) := by decide +kernel
theorem dL_law_642 : decode cL_law 642 = .ok (.iload 4, 2) := by decide +kernel
theorem dL_law_644 : decode cL_law 644 = .ok (.iconst 1, 1) := by decide +kernel
theorem dL_law_645 : decode cL_law 645 = .ok (.iadd, 1) := by decide +kernel
theorem dL_law_646 : decode cL_law 646 = .ok (.iaload, 1) := by decide +kernel
theorem dL_law_647 : decode cL_law 647 = .ok (.aload_n 0, 1) := by decide +kernel
theorem dL_law_648 : decode cL_law 648 = .ok (.iload 4, 2) := by decide +kernel
theorem dL_law_650 : decode cL_law 650 = .ok (.iconst 2, 1) := by decide +kernel
theorem dL_law_651 : decode cL_law 651 = .ok (.iadd, 1) := by decide +kernel
theorem dL_law_652 : decode cL_law 652 = .ok (.iaload, 1) := by decide +kernel
theorem dL_law_653 : decode cL_law 653 = .ok (.invokevirtual 59, 3) := by decide +kernel
theorem dL_law_656 : decode cL_law 656 = .ok (.if_icmp .eq 800, 3) := by decide +kernel
theorem dL_law_659 : decode cL_law 659 = .ok (.iconst 0, 1) := by decide +kernel
theorem dL_law_660 : decode cL_law 660 = .ok (.ireturn, 1) := by decide +kernel
theorem dL_law_661 : decode cL_law 661 = .ok (.aload_n 1, 1) := by decide +kernel
theorem dL_law_662 : decode cL_law 662 = .ok (.aload_n 0, 1) := by decide +kernel
theorem dL_law_663 : decode cL_law 663 = .ok (.iload 4, 2) := by decide +kernel
theorem dL_law_665 : decode cL_law 665 = .ok (.iconst 1, 1) := by decide +kernel
theorem dL_law_666 : decode cL_law 666 = .ok (.iadd, 1) := by decide +kernel
theorem dL_law_667 : decode cL_law 667 = .ok (.iaload, 1) := by decide +kernel
theorem dL_law_668 : decode cL_law 668 = .ok (.aload_n 0, 1) := by decide +kernel
theorem dL_law_669 : decode cL_law 669 = .ok (.iload 4, 2) := by decide +kernel
theorem dL_law_671 : decode cL_law 671 = .ok (.iconst 2, 1) := by decide +kernel
theorem dL_law_672 : decode cL_law 672 = .ok (.iadd, 1) := by decide +kernel
theorem dL_law_673 : decode cL_law 673 = .ok (.iaload, 1) := by decide +kernel
theorem dL_law_674 : decode cL_law 674 = .ok (.aload_n 0, 1) := by decide +kernel
theorem dL_law_675 : decode cL_law 675 = .ok (.iload 4, 2) := by decide +kernel
theorem dL_law_677 : decode cL_law 677 = .ok (.iconst 3, 1) := by decide +kernel
theorem dL_law_678 : decode cL_law 678 = .ok (.iadd, 1) := by decide +kernel
theorem dL_law_679 : decode cL_law 679 = .ok (.iaload, 1) := by decide +kernel
theorem dL_law_680 : decode cL_law 680 = .ok (.ifCond .eq 7, 3) := by decide +kernel
theorem dL_law_683 : decode cL_law 683 = .ok (.iconst 1, 1) := by decide +kernel
theorem dL_law_684 : decode cL_law 684 = .ok (.goto 4, 3) := by decide +kernel
theorem dL_law_687 : decode cL_law 687 = .ok (.iconst 0, 1) := by decide +kernel
theorem dL_law_688 : decode cL_law 688 = .ok (.invokevirtual 60, 3) := by decide +kernel
theorem dL_law_691 : decode cL_law 691 = .ok (.aload_n 2, 1) := by decide +kernel
theorem dL_law_692 : decode cL_law 692 = .ok (.aload_n 0, 1) := by decide +kernel
theorem dL_law_693 : decode cL_law 693 = .ok (.iload 4, 2) := by decide +kernel
theorem dL_law_695 : decode cL_law 695 = .ok (.iconst 1, 1) := by decide +kernel
theorem dL_law_696 : decode cL_law 696 = .ok (.iadd, 1) := by decide +kernel
theorem dL_law_697 : decode cL_law 697 = .ok (.iaload, 1) := by decide +kernel
theorem dL_law_698 : decode cL_law 698 = .ok (.aload_n 0, 1) := by decide +kernel
theorem dL_law_699 : decode cL_law 699 = .ok (.iload 4, 2) := by decide +kernel
theorem dL_law_701 : decode cL_law 701 = .ok (.iconst 2, 1) := by decide +kernel
theorem dL_law_702 : decode cL_law 702 = .ok (.iadd, 1) := by decide +kernel
theorem dL_law_703 : decode cL_law 703 = .ok (.iaload, 1) := by decide +kernel
theorem dL_law_704 : decode cL_law 704 = .ok (.aload_n 0, 1) := by decide +kernel
theorem dL_law_705 : decode cL_law 705 = .ok (.iload 4, 2) := by decide +kernel
theorem dL_law_707 : decode cL_law 707 = .ok (.iconst 3, 1) := by decide +kernel
theorem dL_law_708 : decode cL_law 708 = .ok (.iadd, 1) := by decide +kernel
theorem dL_law_709 : decode cL_law 709 = .ok (.iaload, 1) := by decide +kernel
theorem dL_law_710 : decode cL_law 710 = .ok (.ifCond .eq 7, 3) := by decide +kernel
theorem dL_law_713 : decode cL_law 713 = .ok (.iconst 1, 1) := by decide +kernel
theorem dL_law_714 : decode cL_law 714 = .ok (.goto 4, 3) := by decide +kernel
theorem dL_law_717 : decode cL_law 717 = .ok (.iconst 0, 1) := by decide +kernel
theorem dL_law_718 : decode cL_law 718 = .ok (.invokevirtual 64, 3) := by decide +kernel
theorem dL_law_721 : decode cL_law 721 = .ok (.if_icmp .eq 735, 3) := by decide +kernel
theorem dL_law_724 : decode cL_law 724 = .ok (.iconst 0, 1) := by decide +kernel
theorem dL_law_725 : decode cL_law 725 = .ok (.ireturn, 1) := by decide +kernel
theorem dL_law_726 : decode cL_law 726 = .ok (.aload_n 1, 1) := by decide +kernel
theorem dL_law_727 : decode cL_law 727 = .ok (.aload_n 0, 1) := by decide +kernel
theorem dL_law_728 : decode cL_law 728 = .ok (.iload 4, 2) := by decide +kernel
theorem dL_law_730 : decode cL_law 730 = .ok (.iconst 1, 1) := by decide +kernel
theorem dL_law_731 : decode cL_law 731 = .ok (.iadd, 1) := by decide +kernel
theorem dL_law_732 : decode cL_law 732 = .ok (.iaload, 1) := by decide +kernel
theorem dL_law_733 : decode cL_law 733 = .ok (.aload_n 0, 1) := by decide +kernel
theorem dL_law_734 : decode cL_law 734 = .ok (.iload 4, 2) := by decide +kernel
theorem dL_law_736 : decode cL_law 736 = .ok (.iconst 2, 1) := by decide +kernel
theorem dL_law_737 : decode cL_law 737 = .ok (.iadd, 1) := by decide +kernel
theorem dL_law_738 : decode cL_law 738 = .ok (.iaload, 1) := by decide +kernel
theorem dL_law_739 : decode cL_law 739 = .ok (.aload_n 0, 1) := by decide +kernel
theorem dL_law_740 : decode cL_law 740 = .ok (.iload 4, 2) := by decide +kernel
theorem dL_law_742 : decode cL_law 742 = .ok (.iconst 3, 1) := by decide +kernel
theorem dL_law_743 : decode cL_law 743 = .ok (.iadd, 1) := by decide +kernel
theorem dL_law_744 : decode cL_law 744 = .ok (.iaload, 1) := by decide +kernel
theorem dL_law_745 : decode cL_law 745 = .ok (.ifCond .eq 7, 3) := by decide +kernel
theorem dL_law_748 : decode cL_law 748 = .ok (.iconst 1, 1) := by decide +kernel
theorem dL_law_749 : decode cL_law 749 = .ok (.goto 4, 3) := by decide +kernel
theorem dL_law_752 : decode cL_law 752 = .ok (.iconst 0, 1) := by decide +kernel
theorem dL_law_753 : decode cL_law 753 = .ok (.invokevirtual 65, 3) := by decide +kernel
theorem dL_law_756 : decode cL_law 756 = .ok (.aload_n 2, 1) := by decide +kernel
theorem dL_law_757 : decode cL_law 757 = .ok (.aload_n 0, 1) := by decide +kernel
theorem dL_law_758 : decode cL_law 758 = .ok (.iload 4, 2) := by decide +kernel
theorem dL_law_760 : decode cL_law 760 = .ok (.iconst 1, 1) := by decide +kernel
theorem dL_law_761 : decode cL_law 761 = .ok (.iadd, 1) := by decide +kernel
theorem dL_law_762 : decode cL_law 762 = .ok (.iaload, 1) := by decide +kernel
theorem dL_law_763 : decode cL_law 763 = .ok (.aload_n 0, 1) := by decide +kernel
theorem dL_law_764 : decode cL_law 764 = .ok (.iload 4, 2) := by decide +kernel
theorem dL_law_766 : decode cL_law 766 = .ok (.iconst 2, 1) := by decide +kernel
theorem dL_law_767 : decode cL_law 767 = .ok (.iadd, 1) := by decide +kernel
theorem dL_law_768 : decode cL_law 768 = .ok (.iaload, 1) := by decide +kernel
theorem dL_law_769 : decode cL_law 769 = .ok (.aload_n 0, 1) := by decide +kernel
theorem dL_law_770 : decode cL_law 770 = .ok (.iload 4, 2) := by decide +kernel
theorem dL_law_772 : decode cL_law 772 = .ok (.iconst 3, 1) := by decide +kernel
theorem dL_law_773 : decode cL_law 773 = .ok (.iadd, 1) := by decide +kernel
theorem dL_law_774 : decode cL_law 774 = .ok (.iaload, 1) := by decide +kernel
theorem dL_law_775 : decode cL_law 775 = .ok (.ifCond .eq 7, 3) := by decide +kernel
theorem dL_law_778 : decode cL_law 778 = .ok (.iconst 1, 1) := by decide +kernel
theorem dL_law_779 : decode cL_law 779 = .ok (.goto 4, 3) := by decide +kernel
theorem dL_law_782 : decode cL_law 782 = .ok (.iconst 0, 1) := by decide +kernel
theorem dL_law_783 : decode cL_law 783 = .ok (.invokevirtual 69, 3) := by decide +kernel
theorem dL_law_786 : decode cL_law 786 = .ok (.lcmp, 1) := by decide +kernel
theorem dL_law_787 : decode cL_law 787 = .ok (.ifCond .eq 669, 3) := by decide +kernel
theorem dL_law_790 : decode cL_law 790 = .ok (.iconst 0, 1) := by decide +kernel
theorem dL_law_791 : decode cL_law 791 = .ok (.ireturn, 1) := by decide +kernel
theorem dL_law_792 : decode cL_law 792 = .ok (.aload_n 1, 1) := by decide +kernel
theorem dL_law_793 : decode cL_law 793 = .ok (.aload_n 0, 1) := by decide +kernel
theorem dL_law_794 : decode cL_law 794 = .ok (.iload 4, 2) := by decide +kernel
theorem dL_law_796 : decode cL_law 796 = .ok (.iconst 1, 1) := by decide +kernel
theorem dL_law_797 : decode cL_law 797 = .ok (.iadd, 1) := by decide +kernel
theorem dL_law_798 : decode cL_law 798 = .ok (.iaload, 1) := by decide +kernel
theorem dL_law_799 : decode cL_law 799 = .ok (.aload_n 0, 1) := by decide +kernel
theorem dL_law_800 : decode cL_law 800 = .ok (.iload 4, 2) := by decide +kernel
theorem dL_law_802 : decode cL_law 802 = .ok (.iconst 2, 1) := by decide +kernel
theorem dL_law_803 : decode cL_law 803 = .ok (.iadd, 1) := by decide +kernel
theorem dL_law_804 : decode cL_law 804 = .ok (.iaload, 1) := by decide +kernel
theorem dL_law_805 : decode cL_law 805 = .ok (.aload_n 0, 1) := by decide +kernel
theorem dL_law_806 : decode cL_law 806 = .ok (.iload 4, 2) := by decide +kernel
theorem dL_law_808 : decode cL_law 808 = .ok (.iconst 3, 1) := by decide +kernel
theorem dL_law_809 : decode cL_law 809 = .ok (.iadd, 1) := by decide +kernel
theorem dL_law_810 : decode cL_law 810 = .ok (.iaload, 1) := by decide +kernel
theorem dL_law_811 : decode cL_law 811 = .ok (.aload_n 0, 1) := by decide +kernel
theorem dL_law_812 : decode cL_law 812 = .ok (.iload 4, 2) := by decide +kernel
theorem dL_law_814 : decode cL_law 814 = .ok (.iconst 4, 1) := by decide +kernel
theorem dL_law_815 : decode cL_law 815 = .ok (.iadd, 1) := by decide +kernel
theorem dL_law_816 : decode cL_law 816 = .ok (.iaload, 1) := by decide +kernel
theorem dL_law_817 : decode cL_law 817 = .ok (.invokevirtual 70, 3) := by decide +kernel
theorem dL_law_820 : decode cL_law 820 = .ok (.aload_n 2, 1) := by decide +kernel
theorem dL_law_821 : decode cL_law 821 = .ok (.aload_n 0, 1) := by decide +kernel
theorem dL_law_822 : decode cL_law 822 = .ok (.iload 4, 2) := by decide +kernel
theorem dL_law_824 : decode cL_law 824 = .ok (.iconst 1, 1) := by decide +kernel
theorem dL_law_825 : decode cL_law 825 = .ok (.iadd, 1) := by decide +kernel
theorem dL_law_826 : decode cL_law 826 = .ok (.iaload, 1) := by decide +kernel
theorem dL_law_827 : decode cL_law 827 = .ok (.aload_n 0, 1) := by decide +kernel
theorem dL_law_828 : decode cL_law 828 = .ok (.iload 4, 2) := by decide +kernel
theorem dL_law_830 : decode cL_law 830 = .ok (.iconst 2, 1) := by decide +kernel
theorem dL_law_831 : decode cL_law 831 = .ok (.iadd, 1) := by decide +kernel
theorem dL_law_832 : decode cL_law 832 = .ok (.iaload, 1) := by decide +kernel
theorem dL_law_833 : decode cL_law 833 = .ok (.aload_n 0, 1) := by decide +kernel
theorem dL_law_834 : decode cL_law 834 = .ok (.iload 4, 2) := by decide +kernel
theorem dL_law_836 : decode cL_law 836 = .ok (.iconst 3, 1) := by decide +kernel
theorem dL_law_837 : decode cL_law 837 = .ok (.iadd, 1) := by decide +kernel
theorem dL_law_838 : decode cL_law 838 = .ok (.iaload, 1) := by decide +kernel
theorem dL_law_839 : decode cL_law 839 = .ok (.aload_n 0, 1) := by decide +kernel
theorem dL_law_840 : decode cL_law 840 = .ok (.iload 4, 2) := by decide +kernel
theorem dL_law_842 : decode cL_law 842 = .ok (.iconst 4, 1) := by decide +kernel
theorem dL_law_843 : decode cL_law 843 = .ok (.iadd, 1) := by decide +kernel
theorem dL_law_844 : decode cL_law 844 = .ok (.iaload, 1) := by decide +kernel
theorem dL_law_845 : decode cL_law 845 = .ok (.invokevirtual 74, 3) := by decide +kernel
theorem dL_law_848 : decode cL_law 848 = .ok (.if_icmp .eq 608, 3) := by decide +kernel
theorem dL_law_851 : decode cL_law 851 = .ok (.iconst 0, 1) := by decide +kernel
theorem dL_law_852 : decode cL_law 852 = .ok (.ireturn, 1) := by decide +kernel
theorem dL_law_853 : decode cL_law 853 = .ok (.aload_n 1, 1) := by decide +kernel
theorem dL_law_854 : decode cL_law 854 = .ok (.aload_n 0, 1) := by decide +kernel
theorem dL_law_855 : decode cL_law 855 = .ok (.iload 4, 2) := by decide +kernel
theorem dL_law_857 : decode cL_law 857 = .ok (.iconst 1, 1) := by decide +kernel
theorem dL_law_858 : decode cL_law 858 = .ok (.iadd, 1) := by decide +kernel
theorem dL_law_859 : decode cL_law 859 = .ok (.iaload, 1) := by decide +kernel
theorem dL_law_860 : decode cL_law 860 = .ok (.aload_n 0, 1) := by decide +kernel
theorem dL_law_861 : decode cL_law 861 = .ok (.iload 4, 2) := by decide +kernel
theorem dL_law_863 : decode cL_law 863 = .ok (.iconst 2, 1) := by decide +kernel
theorem dL_law_864 : decode cL_law 864 = .ok (.iadd, 1) := by decide +kernel
theorem dL_law_865 : decode cL_law 865 = .ok (.iaload, 1) := by decide +kernel
theorem dL_law_866 : decode cL_law 866 = .ok (.invokevirtual 75, 3) := by decide +kernel
theorem dL_law_869 : decode cL_law 869 = .ok (.aload_n 2, 1) := by decide +kernel
theorem dL_law_870 : decode cL_law 870 = .ok (.aload_n 0, 1) := by decide +kernel
theorem dL_law_871 : decode cL_law 871 = .ok (.iload 4, 2) := by decide +kernel
theorem dL_law_873 : decode cL_law 873 = .ok (.iconst 1, 1) := by decide +kernel
theorem dL_law_874 : decode cL_law 874 = .ok (.iadd, 1) := by decide +kernel
theorem dL_law_875 : decode cL_law 875 = .ok (.iaload, 1) := by decide +kernel
theorem dL_law_876 : decode cL_law 876 = .ok (.aload_n 0, 1) := by decide +kernel
theorem dL_law_877 : decode cL_law 877 = .ok (.iload 4, 2) := by decide +kernel
theorem dL_law_879 : decode cL_law 879 = .ok (.iconst 2, 1) := by decide +kernel
theorem dL_law_880 : decode cL_law 880 = .ok (.iadd, 1) := by decide +kernel
theorem dL_law_881 : decode cL_law 881 = .ok (.iaload, 1) := by decide +kernel
theorem dL_law_882 : decode cL_law 882 = .ok (.invokevirtual 78, 3) := by decide +kernel
theorem dL_law_885 : decode cL_law 885 = .ok (.if_icmp .eq 571, 3) := by decide +kernel
theorem dL_law_888 : decode cL_law 888 = .ok (.iconst 0, 1) := by decide +kernel
theorem dL_law_889 : decode cL_law 889 = .ok (.ireturn, 1) := by decide +kernel
theorem dL_law_890 : decode cL_law 890 = .ok (.aload_n 1, 1) := by decide +kernel
theorem dL_law_891 : decode cL_law 891 = .ok (.aload_n 0, 1) := by decide +kernel
theorem dL_law_892 : decode cL_law 892 = .ok (.iload 4, 2) := by decide +kernel
theorem dL_law_894 : decode cL_law 894 = .ok (.iconst 1, 1) := by decide +kernel
theorem dL_law_895 : decode cL_law 895 = .ok (.iadd, 1) := by decide +kernel
theorem dL_law_896 : decode cL_law 896 = .ok (.iaload, 1) := by decide +kernel
theorem dL_law_897 : decode cL_law 897 = .ok (.aload_n 0, 1) := by decide +kernel
theorem dL_law_898 : decode cL_law 898 = .ok (.iload 4, 2) := by decide +kernel
theorem dL_law_900 : decode cL_law 900 = .ok (.iconst 2, 1) := by decide +kernel
theorem dL_law_901 : decode cL_law 901 = .ok (.iadd, 1) := by decide +kernel
theorem dL_law_902 : decode cL_law 902 = .ok (.iaload, 1) := by decide +kernel
theorem dL_law_903 : decode cL_law 903 = .ok (.aload_n 0, 1) := by decide +kernel
theorem dL_law_904 : decode cL_law 904 = .ok (.iload 4, 2) := by decide +kernel
theorem dL_law_906 : decode cL_law 906 = .ok (.iconst 3, 1) := by decide +kernel
theorem dL_law_907 : decode cL_law 907 = .ok (.iadd, 1) := by decide +kernel
theorem dL_law_908 : decode cL_law 908 = .ok (.iaload, 1) := by decide +kernel
theorem dL_law_909 : decode cL_law 909 = .ok (.invokevirtual 79, 3) := by decide +kernel
theorem dL_law_912 : decode cL_law 912 = .ok (.aload_n 2, 1) := by decide +kernel
theorem dL_law_913 : decode cL_law 913 = .ok (.aload_n 0, 1) := by decide +kernel
theorem dL_law_914 : decode cL_law 914 = .ok (.iload 4, 2) := by decide +kernel
theorem dL_law_916 : decode cL_law 916 = .ok (.iconst 1, 1) := by decide +kernel
theorem dL_law_917 : decode cL_law 917 = .ok (.iadd, 1) := by decide +kernel
theorem dL_law_918 : decode cL_law 918 = .ok (.iaload, 1) := by decide +kernel
theorem dL_law_919 : decode cL_law 919 = .ok (.aload_n 0, 1) := by decide +kernel
theorem dL_law_920 : decode cL_law 920 = .ok (.iload 4, 2) := by decide +kernel
theorem dL_law_922 : decode cL_law 922 = .ok (.iconst 2, 1) := by decide +kernel
theorem dL_law_923 : decode cL_law 923 = .ok (.iadd, 1) := by decide +kernel
theorem dL_law_924 : decode cL_law 924 = .ok (.iaload, 1) := by decide +kernel
theorem dL_law_925 : decode cL_law 925 = .ok (.aload_n 0, 1) := by decide +kernel
theorem dL_law_926 : decode cL_law 926 = .ok (.iload 4, 2) := by decide +kernel
theorem dL_law_928 : decode cL_law 928 = .ok (.iconst 3, 1) := by decide +kernel
theorem dL_law_929 : decode cL_law 929 = .ok (.iadd, 1) := by decide +kernel
theorem dL_law_930 : decode cL_law 930 = .ok (.iaload, 1) := by decide +kernel
theorem dL_law_931 : decode cL_law 931 = .ok (.invokevirtual 83, 3) := by decide +kernel
theorem dL_law_934 : decode cL_law 934 = .ok (.if_icmp .eq 522, 3) := by decide +kernel
theorem dL_law_937 : decode cL_law 937 = .ok (.iconst 0, 1) := by decide +kernel
theorem dL_law_938 : decode cL_law 938 = .ok (.ireturn, 1) := by decide +kernel
theorem dL_law_939 : decode cL_law 939 = .ok (.aload_n 1, 1) := by decide +kernel
theorem dL_law_940 : decode cL_law 940 = .ok (.aload_n 0, 1) := by decide +kernel
theorem dL_law_941 : decode cL_law 941 = .ok (.iload 4, 2) := by decide +kernel
theorem dL_law_943 : decode cL_law 943 = .ok (.iconst 1, 1) := by decide +kernel
theorem dL_law_944 : decode cL_law 944 = .ok (.iadd, 1) := by decide +kernel
theorem dL_law_945 : decode cL_law 945 = .ok (.iaload, 1) := by decide +kernel
theorem dL_law_946 : decode cL_law 946 = .ok (.aload_n 0, 1) := by decide +kernel
theorem dL_law_947 : decode cL_law 947 = .ok (.iload 4, 2) := by decide +kernel
theorem dL_law_949 : decode cL_law 949 = .ok (.iconst 2, 1) := by decide +kernel
theorem dL_law_950 : decode cL_law 950 = .ok (.iadd, 1) := by decide +kernel
theorem dL_law_951 : decode cL_law 951 = .ok (.iaload, 1) := by decide +kernel
theorem dL_law_952 : decode cL_law 952 = .ok (.aload_n 0, 1) := by decide +kernel
theorem dL_law_953 : decode cL_law 953 = .ok (.iload 4, 2) := by decide +kernel
theorem dL_law_955 : decode cL_law 955 = .ok (.iconst 3, 1) := by decide +kernel
theorem dL_law_956 : decode cL_law 956 = .ok (.iadd, 1) := by decide +kernel
theorem dL_law_957 : decode cL_law 957 = .ok (.iaload, 1) := by decide +kernel
theorem dL_law_958 : decode cL_law 958 = .ok (.aload_n 0, 1) := by decide +kernel
theorem dL_law_959 : decode cL_law 959 = .ok (.iload 4, 2) := by decide +kernel
theorem dL_law_961 : decode cL_law 961 = .ok (.iconst 4, 1) := by decide +kernel
theorem dL_law_962 : decode cL_law 962 = .ok (.iadd, 1) := by decide +kernel
theorem dL_law_963 : decode cL_law 963 = .ok (.iaload, 1) := by decide +kernel
theorem dL_law_964 : decode cL_law 964 = .ok (.ifCond .eq 7, 3) := by decide +kernel
theorem dL_law_967 : decode cL_law 967 = .ok (.iconst 1, 1) := by decide +kernel
theorem dL_law_968 : decode cL_law 968 = .ok (.goto 4, 3) := by decide +kernel
theorem dL_law_971 : decode cL_law 971 = .ok (.iconst 0, 1) := by decide +kernel
theorem dL_law_972 : decode cL_law 972 = .ok (.invokevirtual 84, 3) := by decide +kernel
theorem dL_law_975 : decode cL_law 975 = .ok (.aload_n 2, 1) := by decide +kernel
theorem dL_law_976 : decode cL_law 976 = .ok (.aload_n 0, 1) := by decide +kernel
theorem dL_law_977 : decode cL_law 977 = .ok (.iload 4, 2) := by decide +kernel
theorem dL_law_979 : decode cL_law 979 = .ok (.iconst 1, 1) := by decide +kernel
theorem dL_law_980 : decode cL_law 980 = .ok (.iadd, 1) := by decide +kernel
theorem dL_law_981 : decode cL_law 981 = .ok (.iaload, 1) := by decide +kernel
theorem dL_law_982 : decode cL_law 982 = .ok (.aload_n 0, 1) := by decide +kernel
theorem dL_law_983 : decode cL_law 983 = .ok (.iload 4, 2) := by decide +kernel
theorem dL_law_985 : decode cL_law 985 = .ok (.iconst 2, 1) := by decide +kernel
theorem dL_law_986 : decode cL_law 986 = .ok (.iadd, 1) := by decide +kernel
theorem dL_law_987 : decode cL_law 987 = .ok (.iaload, 1) := by decide +kernel
theorem dL_law_988 : decode cL_law 988 = .ok (.aload_n 0, 1) := by decide +kernel
theorem dL_law_989 : decode cL_law 989 = .ok (.iload 4, 2) := by decide +kernel
theorem dL_law_991 : decode cL_law 991 = .ok (.iconst 3, 1) := by decide +kernel
theorem dL_law_992 : decode cL_law 992 = .ok (.iadd, 1) := by decide +kernel
theorem dL_law_993 : decode cL_law 993 = .ok (.iaload, 1) := by decide +kernel
theorem dL_law_994 : decode cL_law 994 = .ok (.aload_n 0, 1) := by decide +kernel
theorem dL_law_995 : decode cL_law 995 = .ok (.iload 4, 2) := by decide +kernel
theorem dL_law_997 : decode cL_law 997 = .ok (.iconst 4, 1) := by decide +kernel
theorem dL_law_998 : decode cL_law 998 = .ok (.iadd, 1) := by decide +kernel
theorem dL_law_999 : decode cL_law 999 = .ok (.iaload, 1) := by decide +kernel
theorem dL_law_1000 : decode cL_law 1000 = .ok (.ifCond .eq 7, 3) := by decide +kernel
theorem dL_law_1003 : decode cL_law 1003 = .ok (.iconst 1, 1) := by decide +kernel
theorem dL_law_1004 : decode cL_law 1004 = .ok (.goto 4, 3) := by decide +kernel
theorem dL_law_1007 : decode cL_law 1007 = .ok (.iconst 0, 1) := by decide +kernel
theorem dL_law_1008 : decode cL_law 1008 = .ok (.invokevirtual 87, 3) := by decide +kernel
theorem dL_law_1011 : decode cL_law 1011 = .ok (.lcmp, 1) := by decide +kernel
theorem dL_law_1012 : decode cL_law 1012 = .ok (.ifCond .eq 444, 3) := by decide +kernel
theorem dL_law_1015 : decode cL_law 1015 = .ok (.iconst 0, 1) := by decide +kernel
theorem dL_law_1016 : decode cL_law 1016 = .ok (.ireturn, 1) := by decide +kernel
theorem dL_law_1017 : decode cL_law 1017 = .ok (.aload_n 1, 1) := by decide +kernel
theorem dL_law_1018 : decode cL_law 1018 = .ok (.invokevirtual 88, 3) := by decide +kernel
theorem dL_law_1021 : decode cL_law 1021 = .ok (.aload_n 2, 1) := by decide +kernel
theorem dL_law_1022 : decode cL_law 1022 = .ok (.invokevirtual 91, 3) := by decide +kernel
theorem dL_law_1025 : decode cL_law 1025 = .ok (.if_icmp .eq 431, 3) := by decide +kernel
theorem dL_law_1028 : decode cL_law 1028 = .ok (.iconst 0, 1) := by decide +kernel
theorem dL_law_1029 : decode cL_law 1029 = .ok (.ireturn, 1) := by decide +kernel
theorem dL_law_1030 : decode cL_law 1030 = .ok (.aload_n 1, 1) := by decide +kernel
theorem dL_law_1031 : decode cL_law 1031 = .ok (.aload_n 0, 1) := by decide +kernel
theorem dL_law_1032 : decode cL_law 1032 = .ok (.iload 4, 2) := by decide +kernel
theorem dL_law_1034 : decode cL_law 1034 = .ok (.iconst 1, 1) := by decide +kernel
theorem dL_law_1035 : decode cL_law 1035 = .ok (.iadd, 1) := by decide +kernel
theorem dL_law_1036 : decode cL_law 1036 = .ok (.iaload, 1) := by decide +kernel
theorem dL_law_1037 : decode cL_law 1037 = .ok (.invokevirtual 92, 3) := by decide +kernel
theorem dL_law_1040 : decode cL_law 1040 = .ok (.aload_n 2, 1) := by decide +kernel
theorem dL_law_1041 : decode cL_law 1041 = .ok (.aload_n 0, 1) := by decide +kernel
theorem dL_law_1042 : decode cL_law 1042 = .ok (.iload 4, 2) := by decide +kernel
theorem dL_law_1044 : decode cL_law 1044 = .ok (.iconst 1, 1) := by decide +kernel
theorem dL_law_1045 : decode cL_law 1045 = .ok (.iadd, 1) := by decide +kernel
theorem dL_law_1046 : decode cL_law 1046 = .ok (.iaload, 1) := by decide +kernel
theorem dL_law_1047 : decode cL_law 1047 = .ok (.invokevirtual 95, 3) := by decide +kernel
theorem dL_law_1050 : decode cL_law 1050 = .ok (.if_icmp .eq 406, 3) := by decide +kernel
theorem dL_law_1053 : decode cL_law 1053 = .ok (.iconst 0, 1) := by decide +kernel
theorem dL_law_1054 : decode cL_law 1054 = .ok (.ireturn, 1) := by decide +kernel
theorem dL_law_1055 : decode cL_law 1055 = .ok (.aload_n 1, 1) := by decide +kernel
theorem dL_law_1056 : decode cL_law 1056 = .ok (.aload_n 0, 1) := by decide +kernel
theorem dL_law_1057 : decode cL_law 1057 = .ok (.iload 4, 2) := by decide +kernel
theorem dL_law_1059 : decode cL_law 1059 = .ok (.iconst 1, 1) := by decide +kernel
theorem dL_law_1060 : decode cL_law 1060 = .ok (.iadd, 1) := by decide +kernel
theorem dL_law_1061 : decode cL_law 1061 = .ok (.iaload, 1) := by decide +kernel
theorem dL_law_1062 : decode cL_law 1062 = .ok (.aload_n 0, 1) := by decide +kernel
theorem dL_law_1063 : decode cL_law 1063 = .ok (.iload 4, 2) := by decide +kernel
theorem dL_law_1065 : decode cL_law 1065 = .ok (.iconst 2, 1) := by decide +kernel
theorem dL_law_1066 : decode cL_law 1066 = .ok (.iadd, 1) := by decide +kernel
theorem dL_law_1067 : decode cL_law 1067 = .ok (.iaload, 1) := by decide +kernel
theorem dL_law_1068 : decode cL_law 1068 = .ok (.invokevirtual 96, 3) := by decide +kernel
theorem dL_law_1071 : decode cL_law 1071 = .ok (.aload_n 2, 1) := by decide +kernel
theorem dL_law_1072 : decode cL_law 1072 = .ok (.aload_n 0, 1) := by decide +kernel
theorem dL_law_1073 : decode cL_law 1073 = .ok (.iload 4, 2) := by decide +kernel
theorem dL_law_1075 : decode cL_law 1075 = .ok (.iconst 1, 1) := by decide +kernel
theorem dL_law_1076 : decode cL_law 1076 = .ok (.iadd, 1) := by decide +kernel
theorem dL_law_1077 : decode cL_law 1077 = .ok (.iaload, 1) := by decide +kernel
theorem dL_law_1078 : decode cL_law 1078 = .ok (.aload_n 0, 1) := by decide +kernel
theorem dL_law_1079 : decode cL_law 1079 = .ok (.iload 4, 2) := by decide +kernel
theorem dL_law_1081 : decode cL_law 1081 = .ok (.iconst 2, 1) := by decide +kernel
theorem dL_law_1082 : decode cL_law 1082 = .ok (.iadd, 1) := by decide +kernel
theorem dL_law_1083 : decode cL_law 1083 = .ok (.iaload, 1) := by decide +kernel
theorem dL_law_1084 : decode cL_law 1084 = .ok (.invokevirtual 100, 3) := by decide +kernel
theorem dL_law_1087 : decode cL_law 1087 = .ok (.if_icmp .eq 369, 3) := by decide +kernel
theorem dL_law_1090 : decode cL_law 1090 = .ok (.iconst 0, 1) := by decide +kernel
theorem dL_law_1091 : decode cL_law 1091 = .ok (.ireturn, 1) := by decide +kernel
theorem dL_law_1092 : decode cL_law 1092 = .ok (.aload_n 1, 1) := by decide +kernel
theorem dL_law_1093 : decode cL_law 1093 = .ok (.aload_n 0, 1) := by decide +kernel
theorem dL_law_1094 : decode cL_law 1094 = .ok (.iload 4, 2) := by decide +kernel
theorem dL_law_1096 : decode cL_law 1096 = .ok (.iconst 1, 1) := by decide +kernel
theorem dL_law_1097 : decode cL_law 1097 = .ok (.iadd, 1) := by decide +kernel
theorem dL_law_1098 : decode cL_law 1098 = .ok (.iaload, 1) := by decide +kernel
theorem dL_law_1099 : decode cL_law 1099 = .ok (.invokevirtual 101, 3) := by decide +kernel
theorem dL_law_1102 : decode cL_law 1102 = .ok (.aload_n 2, 1) := by decide +kernel
theorem dL_law_1103 : decode cL_law 1103 = .ok (.aload_n 0, 1) := by decide +kernel
theorem dL_law_1104 : decode cL_law 1104 = .ok (.iload 4, 2) := by decide +kernel
theorem dL_law_1106 : decode cL_law 1106 = .ok (.iconst 1, 1) := by decide +kernel
theorem dL_law_1107 : decode cL_law 1107 = .ok (.iadd, 1) := by decide +kernel
theorem dL_law_1108 : decode cL_law 1108 = .ok (.iaload, 1) := by decide +kernel
theorem dL_law_1109 : decode cL_law 1109 = .ok (.invokevirtual 104, 3) := by decide +kernel
theorem dL_law_1112 : decode cL_law 1112 = .ok (.if_icmp .eq 344, 3) := by decide +kernel
theorem dL_law_1115 : decode cL_law 1115 = .ok (.iconst 0, 1) := by decide +kernel
theorem dL_law_1116 : decode cL_law 1116 = .ok (.ireturn, 1) := by decide +kernel
theorem dL_law_1117 : decode cL_law 1117 = .ok (.aload_n 1, 1) := by decide +kernel
theorem dL_law_1118 : decode cL_law 1118 = .ok (.aload_n 0, 1) := by decide +kernel
theorem dL_law_1119 : decode cL_law 1119 = .ok (.iload 4, 2) := by decide +kernel
theorem dL_law_1121 : decode cL_law 1121 = .ok (.iconst 1, 1) := by decide +kernel
theorem dL_law_1122 : decode cL_law 1122 = .ok (.iadd, 1) := by decide +kernel
theorem dL_law_1123 : decode cL_law 1123 = .ok (.iaload, 1) := by decide +kernel
theorem dL_law_1124 : decode cL_law 1124 = .ok (.aload_n 0, 1) := by decide +kernel
theorem dL_law_1125 : decode cL_law 1125 = .ok (.iload 4, 2) := by decide +kernel
theorem dL_law_1127 : decode cL_law 1127 = .ok (.iconst 2, 1) := by decide +kernel
theorem dL_law_1128 : decode cL_law 1128 = .ok (.iadd, 1) := by decide +kernel
theorem dL_law_1129 : decode cL_law 1129 = .ok (.iaload, 1) := by decide +kernel
theorem dL_law_1130 : decode cL_law 1130 = .ok (.ifCond .eq 7, 3) := by decide +kernel
theorem dL_law_1133 : decode cL_law 1133 = .ok (.iconst 1, 1) := by decide +kernel
theorem dL_law_1134 : decode cL_law 1134 = .ok (.goto 4, 3) := by decide +kernel
theorem dL_law_1137 : decode cL_law 1137 = .ok (.iconst 0, 1) := by decide +kernel
theorem dL_law_1138 : decode cL_law 1138 = .ok (.invokevirtual 105, 3) := by decide +kernel
theorem dL_law_1141 : decode cL_law 1141 = .ok (.aload_n 2, 1) := by decide +kernel
theorem dL_law_1142 : decode cL_law 1142 = .ok (.aload_n 0, 1) := by decide +kernel
theorem dL_law_1143 : decode cL_law 1143 = .ok (.iload 4, 2) := by decide +kernel
theorem dL_law_1145 : decode cL_law 1145 = .ok (.iconst 1, 1) := by decide +kernel
theorem dL_law_1146 : decode cL_law 1146 = .ok (.iadd, 1) := by decide +kernel
theorem dL_law_1147 : decode cL_law 1147 = .ok (.iaload, 1) := by decide +kernel
theorem dL_law_1148 : decode cL_law 1148 = .ok (.aload_n 0, 1) := by decide +kernel
theorem dL_law_1149 : decode cL_law 1149 = .ok (.iload 4, 2) := by decide +kernel
theorem dL_law_1151 : decode cL_law 1151 = .ok (.iconst 2, 1) := by decide +kernel
theorem dL_law_1152 : decode cL_law 1152 = .ok (.iadd, 1) := by decide +kernel
theorem dL_law_1153 : decode cL_law 1153 = .ok (.iaload, 1) := by decide +kernel
theorem dL_law_1154 : decode cL_law 1154 = .ok (.ifCond .eq 7, 3) := by decide +kernel
theorem dL_law_1157 : decode cL_law 1157 = .ok (.iconst 1, 1) := by decide +kernel
theorem dL_law_1158 : decode cL_law 1158 = .ok (.goto 4, 3) := by decide +kernel
theorem dL_law_1161 : decode cL_law 1161 = .ok (.iconst 0, 1) := by decide +kernel
theorem dL_law_1162 : decode cL_law 1162 = .ok (.invokevirtual 109, 3) := by decide +kernel
theorem dL_law_1165 : decode cL_law 1165 = .ok (.lcmp, 1) := by decide +kernel
theorem dL_law_1166 : decode cL_law 1166 = .ok (.ifCond .eq 290, 3) := by decide +kernel
theorem dL_law_1169 : decode cL_law 1169 = .ok (.iconst 0, 1) := by decide +kernel
theorem dL_law_1170 : decode cL_law 1170 = .ok (.ireturn, 1) := by decide +kernel
theorem dL_law_1171 : decode cL_law 1171 = .ok (.aload_n 1, 1) := by decide +kernel
theorem dL_law_1172 : decode cL_law 1172 = .ok (.aload_n 0, 1) := by decide +kernel
theorem dL_law_1173 : decode cL_law 1173 = .ok (.iload 4, 2) := by decide +kernel
theorem dL_law_1175 : decode cL_law 1175 = .ok (.iconst 1, 1) := by decide +kernel
theorem dL_law_1176 : decode cL_law 1176 = .ok (.iadd, 1) := by decide +kernel
theorem dL_law_1177 : decode cL_law 1177 = .ok (.iaload, 1) := by decide +kernel
theorem dL_law_1178 : decode cL_law 1178 = .ok (.invokevirtual 110, 3) := by decide +kernel
theorem dL_law_1181 : decode cL_law 1181 = .ok (.aload_n 2, 1) := by decide +kernel
theorem dL_law_1182 : decode cL_law 1182 = .ok (.aload_n 0, 1) := by decide +kernel
theorem dL_law_1183 : decode cL_law 1183 = .ok (.iload 4, 2) := by decide +kernel
theorem dL_law_1185 : decode cL_law 1185 = .ok (.iconst 1, 1) := by decide +kernel
theorem dL_law_1186 : decode cL_law 1186 = .ok (.iadd, 1) := by decide +kernel
theorem dL_law_1187 : decode cL_law 1187 = .ok (.iaload, 1) := by decide +kernel
theorem dL_law_1188 : decode cL_law 1188 = .ok (.invokevirtual 113, 3) := by decide +kernel
theorem dL_law_1191 : decode cL_law 1191 = .ok (.if_icmp .eq 265, 3) := by decide +kernel
theorem dL_law_1194 : decode cL_law 1194 = .ok (.iconst 0, 1) := by decide +kernel
theorem dL_law_1195 : decode cL_law 1195 = .ok (.ireturn, 1) := by decide +kernel
theorem dL_law_1196 : decode cL_law 1196 = .ok (.aload_n 1, 1) := by decide +kernel
theorem dL_law_1197 : decode cL_law 1197 = .ok (.aload_n 0, 1) := by decide +kernel
theorem dL_law_1198 : decode cL_law 1198 = .ok (.iload 4, 2) := by decide +kernel
theorem dL_law_1200 : decode cL_law 1200 = .ok (.iconst 1, 1) := by decide +kernel
theorem dL_law_1201 : decode cL_law 1201 = .ok (.iadd, 1) := by decide +kernel
theorem dL_law_1202 : decode cL_law 1202 = .ok (.iaload, 1) := by decide +kernel
theorem dL_law_1203 : decode cL_law 1203 = .ok (.invokevirtual 114, 3) := by decide +kernel
theorem dL_law_1206 : decode cL_law 1206 = .ok (.aload_n 2, 1) := by decide +kernel
theorem dL_law_1207 : decode cL_law 1207 = .ok (.aload_n 0, 1) := by decide +kernel
theorem dL_law_1208 : decode cL_law 1208 = .ok (.iload 4, 2) := by decide +kernel
theorem dL_law_1210 : decode cL_law 1210 = .ok (.iconst 1, 1) := by decide +kernel
theorem dL_law_1211 : decode cL_law 1211 = .ok (.iadd, 1) := by decide +kernel
theorem dL_law_1212 : decode cL_law 1212 = .ok (.iaload, 1) := by decide +kernel
theorem dL_law_1213 : decode cL_law 1213 = .ok (.invokevirtual 117, 3) := by decide +kernel
theorem dL_law_1216 : decode cL_law 1216 = .ok (.if_icmp .eq 240, 3) := by decide +kernel
theorem dL_law_1219 : decode cL_law 1219 = .ok (.iconst 0, 1) := by decide +kernel
theorem dL_law_1220 : decode cL_law 1220 = .ok (.ireturn, 1) := by decide +kernel
theorem dL_law_1221 : decode cL_law 1221 = .ok (.aload_n 1, 1) := by decide +kernel
theorem dL_law_1222 : decode cL_law 1222 = .ok (.invokevirtual 118, 3) := by decide +kernel
theorem dL_law_1225 : decode cL_law 1225 = .ok (.aload_n 2, 1) := by decide +kernel
theorem dL_law_1226 : decode cL_law 1226 = .ok (.invokevirtual 121, 3) := by decide +kernel
theorem dL_law_1229 : decode cL_law 1229 = .ok (.if_icmp .eq 227, 3) := by decide +kernel
theorem dL_law_1232 : decode cL_law 1232 = .ok (.iconst 0, 1) := by decide +kernel
theorem dL_law_1233 : decode cL_law 1233 = .ok (.ireturn, 1) := by decide +kernel
theorem dL_law_1234 : decode cL_law 1234 = .ok (.aload_n 1, 1) := by decide +kernel
theorem dL_law_1235 : decode cL_law 1235 = .ok (.invokevirtual 122, 3) := by decide +kernel
theorem dL_law_1238 : decode cL_law 1238 = .ok (.aload_n 2, 1) := by decide +kernel
theorem dL_law_1239 : decode cL_law 1239 = .ok (.invokevirtual 125, 3) := by decide +kernel
theorem dL_law_1242 : decode cL_law 1242 = .ok (.if_icmp .eq 214, 3) := by decide +kernel
theorem dL_law_1245 : decode cL_law 1245 = .ok (.iconst 0, 1) := by decide +kernel
theorem dL_law_1246 : decode cL_law 1246 = .ok (.ireturn, 1) := by decide +kernel
theorem dL_law_1247 : decode cL_law 1247 = .ok (.aload_n 1, 1) := by decide +kernel
theorem dL_law_1248 : decode cL_law 1248 = .ok (.aload_n 0, 1) := by decide +kernel
theorem dL_law_1249 : decode cL_law 1249 = .ok (.iload 4, 2) := by decide +kernel
theorem dL_law_1251 : decode cL_law 1251 = .ok (.iconst 1, 1) := by decide +kernel
theorem dL_law_1252 : decode cL_law 1252 = .ok (.iadd, 1) := by decide +kernel
theorem dL_law_1253 : decode cL_law 1253 = .ok (.iaload, 1) := by decide +kernel
theorem dL_law_1254 : decode cL_law 1254 = .ok (.invokevirtual 126, 3) := by decide +kernel
theorem dL_law_1257 : decode cL_law 1257 = .ok (.aload_n 2, 1) := by decide +kernel
theorem dL_law_1258 : decode cL_law 1258 = .ok (.aload_n 0, 1) := by decide +kernel
theorem dL_law_1259 : decode cL_law 1259 = .ok (.iload 4, 2) := by decide +kernel
theorem dL_law_1261 : decode cL_law 1261 = .ok (.iconst 1, 1) := by decide +kernel
theorem dL_law_1262 : decode cL_law 1262 = .ok (.iadd, 1) := by decide +kernel
theorem dL_law_1263 : decode cL_law 1263 = .ok (.iaload, 1) := by decide +kernel
theorem dL_law_1264 : decode cL_law 1264 = .ok (.invokevirtual 130, 3) := by decide +kernel
theorem dL_law_1267 : decode cL_law 1267 = .ok (.if_icmp .eq 189, 3) := by decide +kernel
theorem dL_law_1270 : decode cL_law 1270 = .ok (.iconst 0, 1) := by decide +kernel
theorem dL_law_1271 : decode cL_law 1271 = .ok (.ireturn, 1) := by decide +kernel
theorem dL_law_1272 : decode cL_law 1272 = .ok (.aload_n 1, 1) := by decide +kernel
theorem dL_law_1273 : decode cL_law 1273 = .ok (.aload_n 0, 1) := by decide +kernel
theorem dL_law_1274 : decode cL_law 1274 = .ok (.iload 4, 2) := by decide +kernel
theorem dL_law_1276 : decode cL_law 1276 = .ok (.iconst 1, 1) := by decide +kernel
theorem dL_law_1277 : decode cL_law 1277 = .ok (.iadd, 1) := by decide +kernel
theorem dL_law_1278 : decode cL_law 1278 = .ok (.iaload, 1) := by decide +kernel
theorem dL_law_1279 : decode cL_law 1279 = .ok (.aload_n 0, 1) := by decide +kernel
theorem dL_law_1280 : decode cL_law 1280 = .ok (.iload 4, 2) := by decide +kernel
theorem dL_law_1282 : decode cL_law 1282 = .ok (.iconst 2, 1) := by decide +kernel
theorem dL_law_1283 : decode cL_law 1283 = .ok (.iadd, 1) := by decide +kernel
theorem dL_law_1284 : decode cL_law 1284 = .ok (.iaload, 1) := by decide +kernel
theorem dL_law_1285 : decode cL_law 1285 = .ok (.invokevirtual 131, 3) := by decide +kernel
theorem dL_law_1288 : decode cL_law 1288 = .ok (.aload_n 2, 1) := by decide +kernel
theorem dL_law_1289 : decode cL_law 1289 = .ok (.aload_n 0, 1) := by decide +kernel
theorem dL_law_1290 : decode cL_law 1290 = .ok (.iload 4, 2) := by decide +kernel
theorem dL_law_1292 : decode cL_law 1292 = .ok (.iconst 1, 1) := by decide +kernel
theorem dL_law_1293 : decode cL_law 1293 = .ok (.iadd, 1) := by decide +kernel
theorem dL_law_1294 : decode cL_law 1294 = .ok (.iaload, 1) := by decide +kernel
theorem dL_law_1295 : decode cL_law 1295 = .ok (.aload_n 0, 1) := by decide +kernel
theorem dL_law_1296 : decode cL_law 1296 = .ok (.iload 4, 2) := by decide +kernel
theorem dL_law_1298 : decode cL_law 1298 = .ok (.iconst 2, 1) := by decide +kernel
theorem dL_law_1299 : decode cL_law 1299 = .ok (.iadd, 1) := by decide +kernel
theorem dL_law_1300 : decode cL_law 1300 = .ok (.iaload, 1) := by decide +kernel
theorem dL_law_1301 : decode cL_law 1301 = .ok (.invokevirtual 134, 3) := by decide +kernel
theorem dL_law_1304 : decode cL_law 1304 = .ok (.if_icmp .eq 152, 3) := by decide +kernel
theorem dL_law_1307 : decode cL_law 1307 = .ok (.iconst 0, 1) := by decide +kernel
theorem dL_law_1308 : decode cL_law 1308 = .ok (.ireturn, 1) := by decide +kernel
theorem dL_law_1309 : decode cL_law 1309 = .ok (.aload_n 1, 1) := by decide +kernel
theorem dL_law_1310 : decode cL_law 1310 = .ok (.aload_n 0, 1) := by decide +kernel
theorem dL_law_1311 : decode cL_law 1311 = .ok (.iload 4, 2) := by decide +kernel
theorem dL_law_1313 : decode cL_law 1313 = .ok (.iconst 1, 1) := by decide +kernel
theorem dL_law_1314 : decode cL_law 1314 = .ok (.iadd, 1) := by decide +kernel
theorem dL_law_1315 : decode cL_law 1315 = .ok (.iaload, 1) := by decide +kernel
theorem dL_law_1316 : decode cL_law 1316 = .ok (.aload_n 0, 1) := by decide +kernel
theorem dL_law_1317 : decode cL_law 1317 = .ok (.iload 4, 2) := by decide +kernel
theorem dL_law_1319 : decode cL_law 1319 = .ok (.iconst 2, 1) := by decide +kernel
theorem dL_law_1320 : decode cL_law 1320 = .ok (.iadd, 1) := by decide +kernel
theorem dL_law_1321 : decode cL_law 1321 = .ok (.iaload, 1) := by decide +kernel
theorem dL_law_1322 : decode cL_law 1322 = .ok (.ifCond .eq 7, 3) := by decide +kernel
theorem dL_law_1325 : decode cL_law 1325 = .ok (.iconst 1, 1) := by decide +kernel
theorem dL_law_1326 : decode cL_law 1326 = .ok (.goto 4, 3) := by decide +kernel
theorem dL_law_1329 : decode cL_law 1329 = .ok (.iconst 0, 1) := by decide +kernel
theorem dL_law_1330 : decode cL_law 1330 = .ok (.invokevirtual 135, 3) := by decide +kernel
theorem dL_law_1333 : decode cL_law 1333 = .ok (.aload_n 2, 1) := by decide +kernel
theorem dL_law_1334 : decode cL_law 1334 = .ok (.aload_n 0, 1) := by decide +kernel
theorem dL_law_1335 : decode cL_law 1335 = .ok (.iload 4, 2) := by decide +kernel
theorem dL_law_1337 : decode cL_law 1337 = .ok (.iconst 1, 1) := by decide +kernel
theorem dL_law_1338 : decode cL_law 1338 = .ok (.iadd, 1) := by decide +kernel
theorem dL_law_1339 : decode cL_law 1339 = .ok (.iaload, 1) := by decide +kernel
theorem dL_law_1340 : decode cL_law 1340 = .ok (.aload_n 0, 1) := by decide +kernel
theorem dL_law_1341 : decode cL_law 1341 = .ok (.iload 4, 2) := by decide +kernel
theorem dL_law_1343 : decode cL_law 1343 = .ok (.iconst 2, 1) := by decide +kernel
theorem dL_law_1344 : decode cL_law 1344 = .ok (.iadd, 1) := by decide +kernel
theorem dL_law_1345 : decode cL_law 1345 = .ok (.iaload, 1) := by decide +kernel
theorem dL_law_1346 : decode cL_law 1346 = .ok (.ifCond .eq 7, 3) := by decide +kernel
theorem dL_law_1349 : decode cL_law 1349 = .ok (.iconst 1, 1) := by decide +kernel
theorem dL_law_1350 : decode cL_law 1350 = .ok (.goto 4, 3) := by decide +kernel
theorem dL_law_1353 : decode cL_law 1353 = .ok (.iconst 0, 1) := by decide +kernel
theorem dL_law_1354 : decode cL_law 1354 = .ok (.invokevirtual 139, 3) := by decide +kernel
theorem dL_law_1357 : decode cL_law 1357 = .ok (.if_icmp .eq 99, 3) := by decide +kernel
theorem dL_law_1360 : decode cL_law 1360 = .ok (.iconst 0, 1) := by decide +kernel
theorem dL_law_1361 : decode cL_law 1361 = .ok (.ireturn, 1) := by decide +kernel
theorem dL_law_1362 : decode cL_law 1362 = .ok (.aload_n 1, 1) := by decide +kernel
theorem dL_law_1363 : decode cL_law 1363 = .ok (.aload_n 0, 1) := by decide +kernel
theorem dL_law_1364 : decode cL_law 1364 = .ok (.iload 4, 2) := by decide +kernel
theorem dL_law_1366 : decode cL_law 1366 = .ok (.iconst 1, 1) := by decide +kernel
theorem dL_law_1367 : decode cL_law 1367 = .ok (.iadd, 1) := by decide +kernel
theorem dL_law_1368 : decode cL_law 1368 = .ok (.iaload, 1) := by decide +kernel
theorem dL_law_1369 : decode cL_law 1369 = .ok (.aload_n 3, 1) := by decide +kernel
theorem dL_law_1370 : decode cL_law 1370 = .ok (.invokestatic 140, 3) := by decide +kernel
theorem dL_law_1373 : decode cL_law 1373 = .ok (.istore 5, 2) := by decide +kernel
theorem dL_law_1375 : decode cL_law 1375 = .ok (.aload_n 2, 1) := by decide +kernel
theorem dL_law_1376 : decode cL_law 1376 = .ok (.aload_n 0, 1) := by decide +kernel
theorem dL_law_1377 : decode cL_law 1377 = .ok (.iload 4, 2) := by decide +kernel
theorem dL_law_1379 : decode cL_law 1379 = .ok (.iconst 1, 1) := by decide +kernel
theorem dL_law_1380 : decode cL_law 1380 = .ok (.iadd, 1) := by decide +kernel
theorem dL_law_1381 : decode cL_law 1381 = .ok (.iaload, 1) := by decide +kernel
theorem dL_law_1382 : decode cL_law 1382 = .ok (.invokevirtual 145, 3) := by decide +kernel
theorem dL_law_1385 : decode cL_law 1385 = .ok (.istore 6, 2) := by decide +kernel
theorem dL_law_1387 : decode cL_law 1387 = .ok (.aload_n 2, 1) := by decide +kernel
theorem dL_law_1388 : decode cL_law 1388 = .ok (.invokevirtual 146, 3) := by decide +kernel
theorem dL_law_1391 : decode cL_law 1391 = .ok (.iload 5, 2) := by decide +kernel
theorem dL_law_1393 : decode cL_law 1393 = .ok (.if_icmp .eq 5, 3) := by decide +kernel
theorem dL_law_1396 : decode cL_law 1396 = .ok (.iconst 0, 1) := by decide +kernel
theorem dL_law_1397 : decode cL_law 1397 = .ok (.ireturn, 1) := by decide +kernel
theorem dL_law_1398 : decode cL_law 1398 = .ok (.iload 5, 2) := by decide +kernel
theorem dL_law_1400 : decode cL_law 1400 = .ok (.ifCond .ne 15, 3) := by decide +kernel
theorem dL_law_1403 : decode cL_law 1403 = .ok (.aload_n 3, 1) := by decide +kernel
theorem dL_law_1404 : decode cL_law 1404 = .ok (.iconst 0, 1) := by decide +kernel
theorem dL_law_1405 : decode cL_law 1405 = .ok (.laload, 1) := by decide +kernel
theorem dL_law_1406 : decode cL_law 1406 = .ok (.iload 6, 2) := by decide +kernel
theorem dL_law_1408 : decode cL_law 1408 = .ok (.i2l, 1) := by decide +kernel
theorem dL_law_1409 : decode cL_law 1409 = .ok (.lcmp, 1) := by decide +kernel
theorem dL_law_1410 : decode cL_law 1410 = .ok (.ifCond .eq 5, 3) := by decide +kernel
theorem dL_law_1413 : decode cL_law 1413 = .ok (.iconst 0, 1) := by decide +kernel
theorem dL_law_1414 : decode cL_law 1414 = .ok (.ireturn, 1) := by decide +kernel
theorem dL_law_1415 : decode cL_law 1415 = .ok (.goto 41, 3) := by decide +kernel
theorem dL_law_1418 : decode cL_law 1418 = .ok (.aload_n 1, 1) := by decide +kernel
theorem dL_law_1419 : decode cL_law 1419 = .ok (.aload_n 0, 1) := by decide +kernel
theorem dL_law_1420 : decode cL_law 1420 = .ok (.iload 4, 2) := by decide +kernel
theorem dL_law_1422 : decode cL_law 1422 = .ok (.iconst 1, 1) := by decide +kernel
theorem dL_law_1423 : decode cL_law 1423 = .ok (.iadd, 1) := by decide +kernel
theorem dL_law_1424 : decode cL_law 1424 = .ok (.iaload, 1) := by decide +kernel
theorem dL_law_1425 : decode cL_law 1425 = .ok (.invokevirtual 149, 3) := by decide +kernel
theorem dL_law_1428 : decode cL_law 1428 = .ok (.aload_n 2, 1) := by decide +kernel
theorem dL_law_1429 : decode cL_law 1429 = .ok (.aload_n 0, 1) := by decide +kernel
theorem dL_law_1430 : decode cL_law 1430 = .ok (.iload 4, 2) := by decide +kernel
theorem dL_law_1432 : decode cL_law 1432 = .ok (.iconst 1, 1) := by decide +kernel
theorem dL_law_1433 : decode cL_law 1433 = .ok (.iadd, 1) := by decide +kernel
theorem dL_law_1434 : decode cL_law 1434 = .ok (.iaload, 1) := by decide +kernel
theorem dL_law_1435 : decode cL_law 1435 = .ok (.invokevirtual 152, 3) := by decide +kernel
theorem dL_law_1438 : decode cL_law 1438 = .ok (.if_icmp .eq 18, 3) := by decide +kernel
theorem dL_law_1441 : decode cL_law 1441 = .ok (.iconst 0, 1) := by decide +kernel
theorem dL_law_1442 : decode cL_law 1442 = .ok (.ireturn, 1) := by decide +kernel
theorem dL_law_1443 : decode cL_law 1443 = .ok (.aload_n 1, 1) := by decide +kernel
theorem dL_law_1444 : decode cL_law 1444 = .ok (.invokevirtual 153, 3) := by decide +kernel
theorem dL_law_1447 : decode cL_law 1447 = .ok (.aload_n 2, 1) := by decide +kernel
theorem dL_law_1448 : decode cL_law 1448 = .ok (.invokevirtual 156, 3) := by decide +kernel
theorem dL_law_1451 : decode cL_law 1451 = .ok (.if_icmp .eq 5, 3) := by decide +kernel
theorem dL_law_1454 : decode cL_law 1454 = .ok (.iconst 0, 1) := by decide +kernel
theorem dL_law_1455 : decode cL_law 1455 = .ok (.ireturn, 1) := by decide +kernel
theorem dL_law_1456 : decode cL_law 1456 = .ok (.iinc 4 6, 3) := by decide +kernel
theorem dL_law_1459 : decode cL_law 1459 = .ok (.goto (-1436), 3) := by decide +kernel
theorem dL_law_1462 : decode cL_law 1462 = .ok (.iconst 1, 1) := by decide +kernel
theorem dL_law_1463 : decode cL_law 1463 = .ok (.ireturn, 1) := by decide +kernel
