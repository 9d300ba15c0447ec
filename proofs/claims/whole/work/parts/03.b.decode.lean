theorem dX6_hallLine_60 : decode cX6_hallLine 60 = .ok (.ifCond .eq 13, 3) := by decide +kernel
theorem dX6_hallLine_63 : decode cX6_hallLine 63 = .ok (.aload_n 0, 1) := by decide +kernel
theorem dX6_hallLine_64 : decode cX6_hallLine 64 = .ok (.iconst 0, 1) := by decide +kernel
theorem dX6_hallLine_65 : decode cX6_hallLine 65 = .ok (.bipush 8, 2) := by decide +kernel
theorem dX6_hallLine_67 : decode cX6_hallLine 67 = .ok (.invokevirtual 117, 3) := by decide +kernel
theorem dX6_hallLine_70 : decode cX6_hallLine 70 = .ok (.ifCond .ne 5, 3) := by decide +kernel
theorem dX6_hallLine_73 : decode cX6_hallLine 73 = .ok (.iconst 0, 1) := by decide +kernel
theorem dX6_hallLine_74 : decode cX6_hallLine 74 = .ok (.ireturn, 1) := by decide +kernel
theorem dX6_hallLine_75 : decode cX6_hallLine 75 = .ok (.aload_n 0, 1) := by decide +kernel
theorem dX6_hallLine_76 : decode cX6_hallLine 76 = .ok (.getfield 18, 3) := by decide +kernel
theorem dX6_hallLine_79 : decode cX6_hallLine 79 = .ok (.aload_n 0, 1) := by decide +kernel
theorem dX6_hallLine_80 : decode cX6_hallLine 80 = .ok (.getfield 105, 3) := by decide +kernel
theorem dX6_hallLine_83 : decode cX6_hallLine 83 = .ok (.putfield 124, 3) := by decide +kernel
theorem dX6_hallLine_86 : decode cX6_hallLine 86 = .ok (.aload_n 0, 1) := by decide +kernel
theorem dX6_hallLine_87 : decode cX6_hallLine 87 = .ok (.getfield 18, 3) := by decide +kernel
theorem dX6_hallLine_90 : decode cX6_hallLine 90 = .ok (.iconst 1, 1) := by decide +kernel
theorem dX6_hallLine_91 : decode cX6_hallLine 91 = .ok (.putfield 55, 3) := by decide +kernel
theorem dX6_hallLine_94 : decode cX6_hallLine 94 = .ok (.iconst 1, 1) := by decide +kernel
theorem dX6_hallLine_95 : decode cX6_hallLine 95 = .ok (.ireturn, 1) := by decide +kernel
theorem dX6_boxLine_0 : decode cX6_boxLine 0 = .ok (.aload_n 0, 1) := by decide +kernel
theorem dX6_boxLine_1 : decode cX6_boxLine 1 = .ok (.getfield 18, 3) := by decide +kernel
theorem dX6_boxLine_4 : decode cX6_boxLine 4 = .ok (.getfield 55, 3) := by decide +kernel
theorem dX6_boxLine_7 : decode cX6_boxLine 7 = .ok (.ifCond .ne 10, 3) := by decide +kernel
theorem dX6_boxLine_10 : decode cX6_boxLine 10 = .ok (.aload_n 0, 1) := by decide +kernel
theorem dX6_boxLine_11 : decode cX6_boxLine 11 = .ok (.bipush 6, 2) := by decide +kernel
theorem dX6_boxLine_13 : decode cX6_boxLine 13 = .ok (.invokevirtual 48, 3) := by decide +kernel
theorem dX6_boxLine_16 : decode cX6_boxLine 16 = .ok (.ireturn, 1) := by decide +kernel
theorem dX6_boxLine_17 : decode cX6_boxLine 17 = .ok (.aload_n 0, 1) := by decide +kernel
theorem dX6_boxLine_18 : decode cX6_boxLine 18 = .ok (.getfield 9, 3) := by decide +kernel
theorem dX6_boxLine_21 : decode cX6_boxLine 21 = .ok (.invokevirtual 52, 3) := by decide +kernel
theorem dX6_boxLine_24 : decode cX6_boxLine 24 = .ok (.aload_n 0, 1) := by decide +kernel
theorem dX6_boxLine_25 : decode cX6_boxLine 25 = .ok (.iconst 0, 1) := by decide +kernel
theorem dX6_boxLine_26 : decode cX6_boxLine 26 = .ok (.aload_n 0, 1) := by decide +kernel
theorem dX6_boxLine_27 : decode cX6_boxLine 27 = .ok (.getfield 18, 3) := by decide +kernel
theorem dX6_boxLine_30 : decode cX6_boxLine 30 = .ok (.getfield 120, 3) := by decide +kernel
theorem dX6_boxLine_33 : decode cX6_boxLine 33 = .ok (.iconst 1, 1) := by decide +kernel
theorem dX6_boxLine_34 : decode cX6_boxLine 34 = .ok (.isub, 1) := by decide +kernel
theorem dX6_boxLine_35 : decode cX6_boxLine 35 = .ok (.invokevirtual 108, 3) := by decide +kernel
theorem dX6_boxLine_38 : decode cX6_boxLine 38 = .ok (.ifCond .ne 5, 3) := by decide +kernel
theorem dX6_boxLine_41 : decode cX6_boxLine 41 = .ok (.iconst 0, 1) := by decide +kernel
theorem dX6_boxLine_42 : decode cX6_boxLine 42 = .ok (.ireturn, 1) := by decide +kernel
theorem dX6_boxLine_43 : decode cX6_boxLine 43 = .ok (.aload_n 0, 1) := by decide +kernel
theorem dX6_boxLine_44 : decode cX6_boxLine 44 = .ok (.getfield 105, 3) := by decide +kernel
theorem dX6_boxLine_47 : decode cX6_boxLine 47 = .ok (.istore_n 1, 1) := by decide +kernel
theorem dX6_boxLine_48 : decode cX6_boxLine 48 = .ok (.aload_n 0, 1) := by decide +kernel
theorem dX6_boxLine_49 : decode cX6_boxLine 49 = .ok (.getfield 18, 3) := by decide +kernel
theorem dX6_boxLine_52 : decode cX6_boxLine 52 = .ok (.getfield 126, 3) := by decide +kernel
theorem dX6_boxLine_55 : decode cX6_boxLine 55 = .ok (.iload_n 1, 1) := by decide +kernel
theorem dX6_boxLine_56 : decode cX6_boxLine 56 = .ok (.baload, 1) := by decide +kernel
theorem dX6_boxLine_57 : decode cX6_boxLine 57 = .ok (.ifCond .eq 9, 3) := by decide +kernel
theorem dX6_boxLine_60 : decode cX6_boxLine 60 = .ok (.aload_n 0, 1) := by decide +kernel
theorem dX6_boxLine_61 : decode cX6_boxLine 61 = .ok (.iconst 3, 1) := by decide +kernel
theorem dX6_boxLine_62 : decode cX6_boxLine 62 = .ok (.invokevirtual 48, 3) := by decide +kernel
theorem dX6_boxLine_65 : decode cX6_boxLine 65 = .ok (.ireturn, 1) := by decide +kernel
theorem dX6_boxLine_66 : decode cX6_boxLine 66 = .ok (.aload_n 0, 1) := by decide +kernel
theorem dX6_boxLine_67 : decode cX6_boxLine 67 = .ok (.getfield 18, 3) := by decide +kernel
theorem dX6_boxLine_70 : decode cX6_boxLine 70 = .ok (.getfield 126, 3) := by decide +kernel
theorem dX6_boxLine_73 : decode cX6_boxLine 73 = .ok (.iload_n 1, 1) := by decide +kernel
theorem dX6_boxLine_74 : decode cX6_boxLine 74 = .ok (.iconst 1, 1) := by decide +kernel
theorem dX6_boxLine_75 : decode cX6_boxLine 75 = .ok (.bastore, 1) := by decide +kernel
theorem dX6_boxLine_76 : decode cX6_boxLine 76 = .ok (.aload_n 0, 1) := by decide +kernel
theorem dX6_boxLine_77 : decode cX6_boxLine 77 = .ok (.getfield 9, 3) := by decide +kernel
theorem dX6_boxLine_80 : decode cX6_boxLine 80 = .ok (.invokevirtual 52, 3) := by decide +kernel
theorem dX6_boxLine_83 : decode cX6_boxLine 83 = .ok (.aload_n 0, 1) := by decide +kernel
theorem dX6_boxLine_84 : decode cX6_boxLine 84 = .ok (.ldc 130, 2) := by decide +kernel
theorem dX6_boxLine_86 : decode cX6_boxLine 86 = .ok (.invokevirtual 114, 3) := by decide +kernel
theorem dX6_boxLine_89 : decode cX6_boxLine 89 = .ok (.ifCond .eq 13, 3) := by decide +kernel
theorem dX6_boxLine_92 : decode cX6_boxLine 92 = .ok (.aload_n 0, 1) := by decide +kernel
theorem dX6_boxLine_93 : decode cX6_boxLine 93 = .ok (.iconst 1, 1) := by decide +kernel
theorem dX6_boxLine_94 : decode cX6_boxLine 94 = .ok (.bipush 8, 2) := by decide +kernel
theorem dX6_boxLine_96 : decode cX6_boxLine 96 = .ok (.invokevirtual 117, 3) := by decide +kernel
theorem dX6_boxLine_99 : decode cX6_boxLine 99 = .ok (.ifCond .ne 5, 3) := by decide +kernel
theorem dX6_boxLine_102 : decode cX6_boxLine 102 = .ok (.iconst 0, 1) := by decide +kernel
theorem dX6_boxLine_103 : decode cX6_boxLine 103 = .ok (.ireturn, 1) := by decide +kernel
theorem dX6_boxLine_104 : decode cX6_boxLine 104 = .ok (.aload_n 0, 1) := by decide +kernel
theorem dX6_boxLine_105 : decode cX6_boxLine 105 = .ok (.getfield 18, 3) := by decide +kernel
theorem dX6_boxLine_108 : decode cX6_boxLine 108 = .ok (.getfield 132, 3) := by decide +kernel
theorem dX6_boxLine_111 : decode cX6_boxLine 111 = .ok (.iload_n 1, 1) := by decide +kernel
theorem dX6_boxLine_112 : decode cX6_boxLine 112 = .ok (.aload_n 0, 1) := by decide +kernel
theorem dX6_boxLine_113 : decode cX6_boxLine 113 = .ok (.getfield 105, 3) := by decide +kernel
theorem dX6_boxLine_116 : decode cX6_boxLine 116 = .ok (.iastore, 1) := by decide +kernel
theorem dX6_boxLine_117 : decode cX6_boxLine 117 = .ok (.aload_n 0, 1) := by decide +kernel
theorem dX6_boxLine_118 : decode cX6_boxLine 118 = .ok (.ldc 135, 2) := by decide +kernel
theorem dX6_boxLine_120 : decode cX6_boxLine 120 = .ok (.invokevirtual 114, 3) := by decide +kernel
theorem dX6_boxLine_123 : decode cX6_boxLine 123 = .ok (.ifCond .eq 12, 3) := by decide +kernel
theorem dX6_boxLine_126 : decode cX6_boxLine 126 = .ok (.aload_n 0, 1) := by decide +kernel
theorem dX6_boxLine_127 : decode cX6_boxLine 127 = .ok (.iconst 1, 1) := by decide +kernel
theorem dX6_boxLine_128 : decode cX6_boxLine 128 = .ok (.iconst 3, 1) := by decide +kernel
theorem dX6_boxLine_129 : decode cX6_boxLine 129 = .ok (.invokevirtual 117, 3) := by decide +kernel
theorem dX6_boxLine_132 : decode cX6_boxLine 132 = .ok (.ifCond .ne 5, 3) := by decide +kernel
theorem dX6_boxLine_135 : decode cX6_boxLine 135 = .ok (.iconst 0, 1) := by decide +kernel
theorem dX6_boxLine_136 : decode cX6_boxLine 136 = .ok (.ireturn, 1) := by decide +kernel
theorem dX6_boxLine_137 : decode cX6_boxLine 137 = .ok (.aload_n 0, 1) := by decide +kernel
theorem dX6_boxLine_138 : decode cX6_boxLine 138 = .ok (.getfield 18, 3) := by decide +kernel
theorem dX6_boxLine_141 : decode cX6_boxLine 141 = .ok (.getfield 137, 3) := by decide +kernel
theorem dX6_boxLine_144 : decode cX6_boxLine 144 = .ok (.iload_n 1, 1) := by decide +kernel
theorem dX6_boxLine_145 : decode cX6_boxLine 145 = .ok (.aload_n 0, 1) := by decide +kernel
theorem dX6_boxLine_146 : decode cX6_boxLine 146 = .ok (.getfield 105, 3) := by decide +kernel
theorem dX6_boxLine_149 : decode cX6_boxLine 149 = .ok (.iastore, 1) := by decide +kernel
theorem dX6_boxLine_150 : decode cX6_boxLine 150 = .ok (.iconst 1, 1) := by decide +kernel
theorem dX6_boxLine_151 : decode cX6_boxLine 151 = .ok (.ireturn, 1) := by decide +kernel
theorem dX6_porterLine_0 : decode cX6_porterLine 0 = .ok (.aload_n 0, 1) := by decide +kernel
theorem dX6_porterLine_1 : decode cX6_porterLine 1 = .ok (.getfield 18, 3) := by decide +kernel
theorem dX6_porterLine_4 : decode cX6_porterLine 4 = .ok (.getfield 59, 3) := by decide +kernel
theorem dX6_porterLine_7 : decode cX6_porterLine 7 = .ok (.istore_n 1, 1) := by decide +kernel
theorem dX6_porterLine_8 : decode cX6_porterLine 8 = .ok (.iload_n 1, 1) := by decide +kernel
theorem dX6_porterLine_9 : decode cX6_porterLine 9 = .ok (.bipush 6, 2) := by decide +kernel
theorem dX6_porterLine_11 : decode cX6_porterLine 11 = .ok (.if_icmp .lt 9, 3) := by decide +kernel
theorem dX6_porterLine_14 : decode cX6_porterLine 14 = .ok (.aload_n 0, 1) := by decide +kernel
theorem dX6_porterLine_15 : decode cX6_porterLine 15 = .ok (.iconst 5, 1) := by decide +kernel
theorem dX6_porterLine_16 : decode cX6_porterLine 16 = .ok (.invokevirtual 48, 3) := by decide +kernel
theorem dX6_porterLine_19 : decode cX6_porterLine 19 = .ok (.ireturn, 1) := by decide +kernel
theorem dX6_porterLine_20 : decode cX6_porterLine 20 = .ok (.aload_n 0, 1) := by decide +kernel
theorem dX6_porterLine_21 : decode cX6_porterLine 21 = .ok (.getfield 9, 3) := by decide +kernel
theorem dX6_porterLine_24 : decode cX6_porterLine 24 = .ok (.invokevirtual 52, 3) := by decide +kernel
theorem dX6_porterLine_27 : decode cX6_porterLine 27 = .ok (.aload_n 0, 1) := by decide +kernel
theorem dX6_porterLine_28 : decode cX6_porterLine 28 = .ok (.invokevirtual 139, 3) := by decide +kernel
theorem dX6_porterLine_31 : decode cX6_porterLine 31 = .ok (.ifCond .ne 9, 3) := by decide +kernel
theorem dX6_porterLine_34 : decode cX6_porterLine 34 = .ok (.aload_n 0, 1) := by decide +kernel
theorem dX6_porterLine_35 : decode cX6_porterLine 35 = .ok (.iconst 1, 1) := by decide +kernel
theorem dX6_porterLine_36 : decode cX6_porterLine 36 = .ok (.invokevirtual 48, 3) := by decide +kernel
theorem dX6_porterLine_39 : decode cX6_porterLine 39 = .ok (.ireturn, 1) := by decide +kernel
theorem dX6_porterLine_40 : decode cX6_porterLine 40 = .ok (.aload_n 0, 1) := by decide +kernel
theorem dX6_porterLine_41 : decode cX6_porterLine 41 = .ok (.getfield 18, 3) := by decide +kernel
theorem dX6_porterLine_44 : decode cX6_porterLine 44 = .ok (.aload_n 0, 1) := by decide +kernel
theorem dX6_porterLine_45 : decode cX6_porterLine 45 = .ok (.getfield 9, 3) := by decide +kernel
theorem dX6_porterLine_48 : decode cX6_porterLine 48 = .ok (.getfield 142, 3) := by decide +kernel
theorem dX6_porterLine_51 : decode cX6_porterLine 51 = .ok (.invokevirtual 146, 3) := by decide +kernel
theorem dX6_porterLine_54 : decode cX6_porterLine 54 = .ok (.ifCond .eq 9, 3) := by decide +kernel
theorem dX6_porterLine_57 : decode cX6_porterLine 57 = .ok (.aload_n 0, 1) := by decide +kernel
theorem dX6_porterLine_58 : decode cX6_porterLine 58 = .ok (.iconst 3, 1) := by decide +kernel
theorem dX6_porterLine_59 : decode cX6_porterLine 59 = .ok (.invokevirtual 48, 3) := by decide +kernel
theorem dX6_porterLine_62 : decode cX6_porterLine 62 = .ok (.ireturn, 1) := by decide +kernel
theorem dX6_porterLine_63 : decode cX6_porterLine 63 = .ok (.aload_n 0, 1) := by decide +kernel
theorem dX6_porterLine_64 : decode cX6_porterLine 64 = .ok (.getfield 18, 3) := by decide +kernel
theorem dX6_porterLine_67 : decode cX6_porterLine 67 = .ok (.getfield 150, 3) := by decide +kernel
theorem dX6_porterLine_70 : decode cX6_porterLine 70 = .ok (.iload_n 1, 1) := by decide +kernel
theorem dX6_porterLine_71 : decode cX6_porterLine 71 = .ok (.aload_n 0, 1) := by decide +kernel
theorem dX6_porterLine_72 : decode cX6_porterLine 72 = .ok (.getfield 9, 3) := by decide +kernel
theorem dX6_porterLine_75 : decode cX6_porterLine 75 = .ok (.getfield 142, 3) := by decide +kernel
theorem dX6_porterLine_78 : decode cX6_porterLine 78 = .ok (.lastore, 1) := by decide +kernel
theorem dX6_porterLine_79 : decode cX6_porterLine 79 = .ok (.aload_n 0, 1) := by decide +kernel
theorem dX6_porterLine_80 : decode cX6_porterLine 80 = .ok (.getfield 9, 3) := by decide +kernel
theorem dX6_porterLine_83 : decode cX6_porterLine 83 = .ok (.invokevirtual 52, 3) := by decide +kernel
theorem dX6_porterLine_86 : decode cX6_porterLine 86 = .ok (.aload_n 0, 1) := by decide +kernel
theorem dX6_porterLine_87 : decode cX6_porterLine 87 = .ok (.ldc 153, 2) := by decide +kernel
theorem dX6_porterLine_89 : decode cX6_porterLine 89 = .ok (.invokevirtual 114, 3) := by decide +kernel
theorem dX6_porterLine_92 : decode cX6_porterLine 92 = .ok (.ifCond .eq 12, 3) := by decide +kernel
theorem dX6_porterLine_95 : decode cX6_porterLine 95 = .ok (.aload_n 0, 1) := by decide +kernel
theorem dX6_porterLine_96 : decode cX6_porterLine 96 = .ok (.iconst 1, 1) := by decide +kernel
theorem dX6_porterLine_97 : decode cX6_porterLine 97 = .ok (.iconst 3, 1) := by decide +kernel
theorem dX6_porterLine_98 : decode cX6_porterLine 98 = .ok (.invokevirtual 117, 3) := by decide +kernel
theorem dX6_porterLine_101 : decode cX6_porterLine 101 = .ok (.ifCond .ne 5, 3) := by decide +kernel
theorem dX6_porterLine_104 : decode cX6_porterLine 104 = .ok (.iconst 0, 1) := by decide +kernel
theorem dX6_porterLine_105 : decode cX6_porterLine 105 = .ok (.ireturn, 1) := by decide +kernel
theorem dX6_porterLine_106 : decode cX6_porterLine 106 = .ok (.aload_n 0, 1) := by decide +kernel
theorem dX6_porterLine_107 : decode cX6_porterLine 107 = .ok (.getfield 105, 3) := by decide +kernel
theorem dX6_porterLine_110 : decode cX6_porterLine 110 = .ok (.istore_n 2, 1) := by decide +kernel
theorem dX6_porterLine_111 : decode cX6_porterLine 111 = .ok (.aload_n 0, 1) := by decide +kernel
theorem dX6_porterLine_112 : decode cX6_porterLine 112 = .ok (.invokevirtual 155, 3) := by decide +kernel
theorem dX6_porterLine_115 : decode cX6_porterLine 115 = .ok (.istore_n 3, 1) := by decide +kernel
theorem dX6_porterLine_116 : decode cX6_porterLine 116 = .ok (.iload_n 3, 1) := by decide +kernel
theorem dX6_porterLine_117 : decode cX6_porterLine 117 = .ok (.ifCond .ge 9, 3) := by decide +kernel
theorem dX6_porterLine_120 : decode cX6_porterLine 120 = .ok (.aload_n 0, 1) := by decide +kernel
theorem dX6_porterLine_121 : decode cX6_porterLine 121 = .ok (.iconst 1, 1) := by decide +kernel
theorem dX6_porterLine_122 : decode cX6_porterLine 122 = .ok (.invokevirtual 48, 3) := by decide +kernel
theorem dX6_porterLine_125 : decode cX6_porterLine 125 = .ok (.ireturn, 1) := by decide +kernel
theorem dX6_porterLine_126 : decode cX6_porterLine 126 = .ok (.aload_n 0, 1) := by decide +kernel
theorem dX6_porterLine_127 : decode cX6_porterLine 127 = .ok (.getfield 9, 3) := by decide +kernel
theorem dX6_porterLine_130 : decode cX6_porterLine 130 = .ok (.invokevirtual 52, 3) := by decide +kernel
theorem dX6_porterLine_133 : decode cX6_porterLine 133 = .ok (.iload_n 3, 1) := by decide +kernel
theorem dX6_porterLine_134 : decode cX6_porterLine 134 = .ok (.iconst 2, 1) := by decide +kernel
theorem dX6_porterLine_135 : decode cX6_porterLine 135 = .ok (.if_icmp .ne 15, 3) := by decide +kernel
theorem dX6_porterLine_138 : decode cX6_porterLine 138 = .ok (.aload_n 0, 1) := by decide +kernel
theorem dX6_porterLine_139 : decode cX6_porterLine 139 = .ok (.iconst 0, 1) := by decide +kernel
theorem dX6_porterLine_140 : decode cX6_porterLine 140 = .ok (.bipush 8, 2) := by decide +kernel
theorem dX6_porterLine_142 : decode cX6_porterLine 142 = .ok (.invokevirtual 117, 3) := by decide +kernel
theorem dX6_porterLine_145 : decode cX6_porterLine 145 = .ok (.ifCond .ne 5, 3) := by decide +kernel
theorem dX6_porterLine_148 : decode cX6_porterLine 148 = .ok (.iconst 0, 1) := by decide +kernel
theorem dX6_porterLine_149 : decode cX6_porterLine 149 = .ok (.ireturn, 1) := by decide +kernel
theorem dX6_porterLine_150 : decode cX6_porterLine 150 = .ok (.aload_n 0, 1) := by decide +kernel
theorem dX6_porterLine_151 : decode cX6_porterLine 151 = .ok (.getfield 18, 3) := by decide +kernel
theorem dX6_porterLine_154 : decode cX6_porterLine 154 = .ok (.getfield 159, 3) := by decide +kernel
theorem dX6_porterLine_157 : decode cX6_porterLine 157 = .ok (.iload_n 1, 1) := by decide +kernel
theorem dX6_porterLine_158 : decode cX6_porterLine 158 = .ok (.aaload, 1) := by decide +kernel
theorem dX6_porterLine_159 : decode cX6_porterLine 159 = .ok (.iload_n 2, 1) := by decide +kernel
theorem dX6_porterLine_160 : decode cX6_porterLine 160 = .ok (.iload_n 3, 1) := by decide +kernel
theorem dX6_porterLine_161 : decode cX6_porterLine 161 = .ok (.iload_n 3, 1) := by decide +kernel
theorem dX6_porterLine_162 : decode cX6_porterLine 162 = .ok (.iconst 2, 1) := by decide +kernel
theorem dX6_porterLine_163 : decode cX6_porterLine 163 = .ok (.if_icmp .ne 10, 3) := by decide +kernel
theorem dX6_porterLine_166 : decode cX6_porterLine 166 = .ok (.aload_n 0, 1) := by decide +kernel
theorem dX6_porterLine_167 : decode cX6_porterLine 167 = .ok (.getfield 105, 3) := by decide +kernel
theorem dX6_porterLine_170 : decode cX6_porterLine 170 = .ok (.goto 5, 3) := by decide +kernel
theorem dX6_porterLine_173 : decode cX6_porterLine 173 = .ok (.bipush (-2), 2) := by decide +kernel
theorem dX6_porterLine_175 : decode cX6_porterLine 175 = .ok (.invokevirtual 162, 3) := by decide +kernel
theorem dX6_porterLine_178 : decode cX6_porterLine 178 = .ok (.aload_n 0, 1) := by decide +kernel
theorem dX6_porterLine_179 : decode cX6_porterLine 179 = .ok (.getfield 18, 3) := by decide +kernel
theorem dX6_porterLine_182 : decode cX6_porterLine 182 = .ok (.dup, 1) := by decide +kernel
theorem dX6_porterLine_183 : decode cX6_porterLine 183 = .ok (.getfield 59, 3) := by decide +kernel
theorem dX6_porterLine_186 : decode cX6_porterLine 186 = .ok (.iconst 1, 1) := by decide +kernel
theorem dX6_porterLine_187 : decode cX6_porterLine 187 = .ok (.iadd, 1) := by decide +kernel
theorem dX6_porterLine_188 : decode cX6_porterLine 188 = .ok (.putfield 59, 3) := by decide +kernel
theorem dX6_porterLine_191 : decode cX6_porterLine 191 = .ok (.iconst 1, 1) := by decide +kernel
theorem dX6_porterLine_192 : decode cX6_porterLine 192 = .ok (.ireturn, 1) := by decide +kernel
theorem dX6_isName_0 : decode cX6_isName 0 = .ok (.aload_n 0, 1) := by decide +kernel
theorem dX6_isName_1 : decode cX6_isName 1 = .ok (.getfield 9, 3) := by decide +kernel
theorem dX6_isName_4 : decode cX6_isName 4 = .ok (.ldc 68, 2) := by decide +kernel
theorem dX6_isName_6 : decode cX6_isName 6 = .ok (.invokevirtual 70, 3) := by decide +kernel
theorem dX6_isName_9 : decode cX6_isName 9 = .ok (.ifCond .ne 27, 3) := by decide +kernel
theorem dX6_isName_12 : decode cX6_isName 12 = .ok (.aload_n 0, 1) := by decide +kernel
theorem dX6_isName_13 : decode cX6_isName 13 = .ok (.getfield 9, 3) := by decide +kernel
theorem dX6_isName_16 : decode cX6_isName 16 = .ok (.ldc 77, 2) := by decide +kernel
theorem dX6_isName_18 : decode cX6_isName 18 = .ok (.invokevirtual 70, 3) := by decide +kernel
theorem dX6_isName_21 : decode cX6_isName 21 = .ok (.ifCond .ne 15, 3) := by decide +kernel
theorem dX6_isName_24 : decode cX6_isName 24 = .ok (.aload_n 0, 1) := by decide +kernel
theorem dX6_isName_25 : decode cX6_isName 25 = .ok (.getfield 9, 3) := by decide +kernel
theorem dX6_isName_28 : decode cX6_isName 28 = .ok (.ldc 82, 2) := by decide +kernel
theorem dX6_isName_30 : decode cX6_isName 30 = .ok (.invokevirtual 70, 3) := by decide +kernel
theorem dX6_isName_33 : decode cX6_isName 33 = .ok (.ifCond .eq 7, 3) := by decide +kernel
theorem dX6_isName_36 : decode cX6_isName 36 = .ok (.iconst 1, 1) := by decide +kernel
theorem dX6_isName_37 : decode cX6_isName 37 = .ok (.goto 4, 3) := by decide +kernel
theorem dX6_isName_40 : decode cX6_isName 40 = .ok (.iconst 0, 1) := by decide +kernel
theorem dX6_isName_41 : decode cX6_isName 41 = .ok (.istore_n 1, 1) := by decide +kernel
theorem dX6_isName_42 : decode cX6_isName 42 = .ok (.iload_n 1, 1) := by decide +kernel
theorem dX6_isName_43 : decode cX6_isName 43 = .ok (.ifCond .ne 39, 3) := by decide +kernel
theorem dX6_isName_46 : decode cX6_isName 46 = .ok (.aload_n 0, 1) := by decide +kernel
theorem dX6_isName_47 : decode cX6_isName 47 = .ok (.getfield 9, 3) := by decide +kernel
theorem dX6_isName_50 : decode cX6_isName 50 = .ok (.ldc 87, 2) := by decide +kernel
theorem dX6_isName_52 : decode cX6_isName 52 = .ok (.invokevirtual 70, 3) := by decide +kernel
theorem dX6_isName_55 : decode cX6_isName 55 = .ok (.ifCond .ne 27, 3) := by decide +kernel
theorem dX6_isName_58 : decode cX6_isName 58 = .ok (.aload_n 0, 1) := by decide +kernel
theorem dX6_isName_59 : decode cX6_isName 59 = .ok (.getfield 9, 3) := by decide +kernel
theorem dX6_isName_62 : decode cX6_isName 62 = .ok (.ldc 92, 2) := by decide +kernel
theorem dX6_isName_64 : decode cX6_isName 64 = .ok (.invokevirtual 70, 3) := by decide +kernel
theorem dX6_isName_67 : decode cX6_isName 67 = .ok (.ifCond .ne 15, 3) := by decide +kernel
theorem dX6_isName_70 : decode cX6_isName 70 = .ok (.aload_n 0, 1) := by decide +kernel
theorem dX6_isName_71 : decode cX6_isName 71 = .ok (.getfield 9, 3) := by decide +kernel
theorem dX6_isName_74 : decode cX6_isName 74 = .ok (.ldc 97, 2) := by decide +kernel
theorem dX6_isName_76 : decode cX6_isName 76 = .ok (.invokevirtual 70, 3) := by decide +kernel
theorem dX6_isName_79 : decode cX6_isName 79 = .ok (.ifCond .eq 7, 3) := by decide +kernel
theorem dX6_isName_82 : decode cX6_isName 82 = .ok (.iconst 1, 1) := by decide +kernel
theorem dX6_isName_83 : decode cX6_isName 83 = .ok (.goto 4, 3) := by decide +kernel
theorem dX6_isName_86 : decode cX6_isName 86 = .ok (.iconst 0, 1) := by decide +kernel
theorem dX6_isName_87 : decode cX6_isName 87 = .ok (.istore_n 1, 1) := by decide +kernel
theorem dX6_isName_88 : decode cX6_isName 88 = .ok (.aload_n 0, 1) := by decide +kernel
theorem dX6_isName_89 : decode cX6_isName 89 = .ok (.getfield 9, 3) := by decide +kernel
theorem dX6_isName_92 : decode cX6_isName 92 = .ok (.getfield 42, 3) := by decide +kernel
theorem dX6_isName_95 : decode cX6_isName 95 = .ok (.iconst 1, 1) := by decide +kernel
theorem dX6_isName_96 : decode cX6_isName 96 = .ok (.if_icmp .ne 11, 3) := by decide +kernel
theorem dX6_isName_99 : decode cX6_isName 99 = .ok (.iload_n 1, 1) := by decide +kernel
theorem dX6_isName_100 : decode cX6_isName 100 = .ok (.ifCond .ne 7, 3) := by decide +kernel
theorem dX6_isName_103 : decode cX6_isName 103 = .ok (.iconst 1, 1) := by decide +kernel
theorem dX6_isName_104 : decode cX6_isName 104 = .ok (.goto 4, 3) := by decide +kernel
theorem dX6_isName_107 : decode cX6_isName 107 = .ok (.iconst 0, 1) := by decide +kernel
theorem dX6_isName_108 : decode cX6_isName 108 = .ok (.ireturn, 1) := by decide +kernel
theorem dX6_rule_0 : decode cX6_rule 0 = .ok (.aload_n 0, 1) := by decide +kernel
theorem dX6_rule_1 : decode cX6_rule 1 = .ok (.getfield 9, 3) := by decide +kernel
theorem dX6_rule_4 : decode cX6_rule 4 = .ok (.ldc 168, 2) := by decide +kernel
theorem dX6_rule_6 : decode cX6_rule 6 = .ok (.invokevirtual 70, 3) := by decide +kernel
theorem dX6_rule_9 : decode cX6_rule 9 = .ok (.ifCond .eq 5, 3) := by decide +kernel
theorem dX6_rule_12 : decode cX6_rule 12 = .ok (.iconst 0, 1) := by decide +kernel
theorem dX6_rule_13 : decode cX6_rule 13 = .ok (.ireturn, 1) := by decide +kernel
theorem dX6_rule_14 : decode cX6_rule 14 = .ok (.aload_n 0, 1) := by decide +kernel
theorem dX6_rule_15 : decode cX6_rule 15 = .ok (.getfield 9, 3) := by decide +kernel
theorem dX6_rule_18 : decode cX6_rule 18 = .ok (.ldc 170, 2) := by decide +kernel
theorem dX6_rule_20 : decode cX6_rule 20 = .ok (.invokevirtual 70, 3) := by decide +kernel
theorem dX6_rule_23 : decode cX6_rule 23 = .ok (.ifCond .eq 5, 3) := by decide +kernel
theorem dX6_rule_26 : decode cX6_rule 26 = .ok (.iconst 1, 1) := by decide +kernel
theorem dX6_rule_27 : decode cX6_rule 27 = .ok (.ireturn, 1) := by decide +kernel
theorem dX6_rule_28 : decode cX6_rule 28 = .ok (.aload_n 0, 1) := by decide +kernel
theorem dX6_rule_29 : decode cX6_rule 29 = .ok (.getfield 9, 3) := by decide +kernel
theorem dX6_rule_32 : decode cX6_rule 32 = .ok (.ldc 172, 2) := by decide +kernel
theorem dX6_rule_34 : decode cX6_rule 34 = .ok (.invokevirtual 70, 3) := by decide +kernel
theorem dX6_rule_37 : decode cX6_rule 37 = .ok (.ifCond .eq 5, 3) := by decide +kernel
theorem dX6_rule_40 : decode cX6_rule 40 = .ok (.iconst 2, 1) := by decide +kernel
theorem dX6_rule_41 : decode cX6_rule 41 = .ok (.ireturn, 1) := by decide +kernel
theorem dX6_rule_42 : decode cX6_rule 42 = .ok (.aload_n 0, 1) := by decide +kernel
theorem dX6_rule_43 : decode cX6_rule 43 = .ok (.getfield 9, 3) := by decide +kernel
theorem dX6_rule_46 : decode cX6_rule 46 = .ok (.ldc 174, 2) := by decide +kernel
theorem dX6_rule_48 : decode cX6_rule 48 = .ok (.invokevirtual 70, 3) := by decide +kernel
theorem dX6_rule_51 : decode cX6_rule 51 = .ok (.ifCond .eq 5, 3) := by decide +kernel
theorem dX6_rule_54 : decode cX6_rule 54 = .ok (.iconst 3, 1) := by decide +kernel
theorem dX6_rule_55 : decode cX6_rule 55 = .ok (.ireturn, 1) := by decide +kernel
theorem dX6_rule_56 : decode cX6_rule 56 = .ok (.aload_n 0, 1) := by decide +kernel
theorem dX6_rule_57 : decode cX6_rule 57 = .ok (.getfield 9, 3) := by decide +kernel
theorem dX6_rule_60 : decode cX6_rule 60 = .ok (.ldc 176, 2) := by decide +kernel
theorem dX6_rule_62 : decode cX6_rule 62 = .ok (.invokevirtual 70, 3) := by decide +kernel
theorem dX6_rule_65 : decode cX6_rule 65 = .ok (.ifCond .eq 7, 3) := by decide +kernel
theorem dX6_rule_68 : decode cX6_rule 68 = .ok (.iconst 4, 1) := by decide +kernel
theorem dX6_rule_69 : decode cX6_rule 69 = .ok (.goto 4, 3) := by decide +kernel
theorem dX6_rule_72 : decode cX6_rule 72 = .ok (.iconst (-1), 1) := by decide +kernel
theorem dX6_rule_73 : decode cX6_rule 73 = .ok (.ireturn, 1) := by decide +kernel
theorem dX6_doorLine_0 : decode cX6_doorLine 0 = .ok (.aload_n 0, 1) := by decide +kernel
theorem dX6_doorLine_1 : decode cX6_doorLine 1 = .ok (.getfield 18, 3) := by decide +kernel
theorem dX6_doorLine_4 : decode cX6_doorLine 4 = .ok (.getfield 178, 3) := by decide +kernel
theorem dX6_doorLine_7 : decode cX6_doorLine 7 = .ok (.ifCond .le 9, 3) := by decide +kernel
theorem dX6_doorLine_10 : decode cX6_doorLine 10 = .ok (.aload_n 0, 1) := by decide +kernel
theorem dX6_doorLine_11 : decode cX6_doorLine 11 = .ok (.iconst 3, 1) := by decide +kernel
theorem dX6_doorLine_12 : decode cX6_doorLine 12 = .ok (.invokevirtual 48, 3) := by decide +kernel
theorem dX6_doorLine_15 : decode cX6_doorLine 15 = .ok (.ireturn, 1) := by decide +kernel
theorem dX6_doorLine_16 : decode cX6_doorLine 16 = .ok (.aload_n 0, 1) := by decide +kernel
theorem dX6_doorLine_17 : decode cX6_doorLine 17 = .ok (.getfield 18, 3) := by decide +kernel
theorem dX6_doorLine_20 : decode cX6_doorLine 20 = .ok (.getfield 55, 3) := by decide +kernel
theorem dX6_doorLine_23 : decode cX6_doorLine 23 = .ok (.ifCond .ne 10, 3) := by decide +kernel
theorem dX6_doorLine_26 : decode cX6_doorLine 26 = .ok (.aload_n 0, 1) := by decide +kernel
theorem dX6_doorLine_27 : decode cX6_doorLine 27 = .ok (.bipush 6, 2) := by decide +kernel
theorem dX6_doorLine_29 : decode cX6_doorLine 29 = .ok (.invokevirtual 48, 3) := by decide +kernel
theorem dX6_doorLine_32 : decode cX6_doorLine 32 = .ok (.ireturn, 1) := by decide +kernel
theorem dX6_doorLine_33 : decode cX6_doorLine 33 = .ok (.aload_n 0, 1) := by decide +kernel
theorem dX6_doorLine_34 : decode cX6_doorLine 34 = .ok (.getfield 9, 3) := by decide +kernel
theorem dX6_doorLine_37 : decode cX6_doorLine 37 = .ok (.invokevirtual 52, 3) := by decide +kernel
theorem dX6_doorLine_40 : decode cX6_doorLine 40 = .ok (.aload_n 0, 1) := by decide +kernel
theorem dX6_doorLine_41 : decode cX6_doorLine 41 = .ok (.iconst 0, 1) := by decide +kernel
theorem dX6_doorLine_42 : decode cX6_doorLine 42 = .ok (.aload_n 0, 1) := by decide +kernel
theorem dX6_doorLine_43 : decode cX6_doorLine 43 = .ok (.getfield 18, 3) := by decide +kernel
theorem dX6_doorLine_46 : decode cX6_doorLine 46 = .ok (.getfield 120, 3) := by decide +kernel
theorem dX6_doorLine_49 : decode cX6_doorLine 49 = .ok (.iconst 1, 1) := by decide +kernel
theorem dX6_doorLine_50 : decode cX6_doorLine 50 = .ok (.isub, 1) := by decide +kernel
theorem dX6_doorLine_51 : decode cX6_doorLine 51 = .ok (.invokevirtual 117, 3) := by decide +kernel
theorem dX6_doorLine_54 : decode cX6_doorLine 54 = .ok (.ifCond .ne 5, 3) := by decide +kernel
theorem dX6_doorLine_57 : decode cX6_doorLine 57 = .ok (.iconst 0, 1) := by decide +kernel
theorem dX6_doorLine_58 : decode cX6_doorLine 58 = .ok (.ireturn, 1) := by decide +kernel
theorem dX6_doorLine_59 : decode cX6_doorLine 59 = .ok (.aload_n 0, 1) := by decide +kernel
theorem dX6_doorLine_60 : decode cX6_doorLine 60 = .ok (.getfield 18, 3) := by decide +kernel
theorem dX6_doorLine_63 : decode cX6_doorLine 63 = .ok (.aload_n 0, 1) := by decide +kernel
theorem dX6_doorLine_64 : decode cX6_doorLine 64 = .ok (.getfield 105, 3) := by decide +kernel
theorem dX6_doorLine_67 : decode cX6_doorLine 67 = .ok (.putfield 181, 3) := by decide +kernel
theorem dX6_doorLine_70 : decode cX6_doorLine 70 = .ok (.aload_n 0, 1) := by decide +kernel
theorem dX6_doorLine_71 : decode cX6_doorLine 71 = .ok (.ldc 184, 2) := by decide +kernel
theorem dX6_doorLine_73 : decode cX6_doorLine 73 = .ok (.invokevirtual 114, 3) := by decide +kernel
theorem dX6_doorLine_76 : decode cX6_doorLine 76 = .ok (.ifCond .eq 13, 3) := by decide +kernel
theorem dX6_doorLine_79 : decode cX6_doorLine 79 = .ok (.aload_n 0, 1) := by decide +kernel
theorem dX6_doorLine_80 : decode cX6_doorLine 80 = .ok (.iconst 1, 1) := by decide +kernel
theorem dX6_doorLine_81 : decode cX6_doorLine 81 = .ok (.bipush 9, 2) := by decide +kernel
theorem dX6_doorLine_83 : decode cX6_doorLine 83 = .ok (.invokevirtual 117, 3) := by decide +kernel
theorem dX6_doorLine_86 : decode cX6_doorLine 86 = .ok (.ifCond .ne 5, 3) := by decide +kernel
theorem dX6_doorLine_89 : decode cX6_doorLine 89 = .ok (.iconst 0, 1) := by decide +kernel
theorem dX6_doorLine_90 : decode cX6_doorLine 90 = .ok (.ireturn, 1) := by decide +kernel
theorem dX6_doorLine_91 : decode cX6_doorLine 91 = .ok (.aload_n 0, 1) := by decide +kernel
theorem dX6_doorLine_92 : decode cX6_doorLine 92 = .ok (.getfield 18, 3) := by decide +kernel
theorem dX6_doorLine_95 : decode cX6_doorLine 95 = .ok (.aload_n 0, 1) := by decide +kernel
theorem dX6_doorLine_96 : decode cX6_doorLine 96 = .ok (.getfield 105, 3) := by decide +kernel
theorem dX6_doorLine_99 : decode cX6_doorLine 99 = .ok (.putfield 178, 3) := by decide +kernel
theorem dX6_doorLine_102 : decode cX6_doorLine 102 = .ok (.iconst 1, 1) := by decide +kernel
theorem dX6_doorLine_103 : decode cX6_doorLine 103 = .ok (.ireturn, 1) := by decide +kernel
theorem dX6_movesLine_0 : decode cX6_movesLine 0 = .ok (.aload_n 0, 1) := by decide +kernel
theorem dX6_movesLine_1 : decode cX6_movesLine 1 = .ok (.getfield 18, 3) := by decide +kernel
theorem dX6_movesLine_4 : decode cX6_movesLine 4 = .ok (.getfield 186, 3) := by decide +kernel
theorem dX6_movesLine_7 : decode cX6_movesLine 7 = .ok (.ifCond .le 9, 3) := by decide +kernel
theorem dX6_movesLine_10 : decode cX6_movesLine 10 = .ok (.aload_n 0, 1) := by decide +kernel
theorem dX6_movesLine_11 : decode cX6_movesLine 11 = .ok (.iconst 3, 1) := by decide +kernel
theorem dX6_movesLine_12 : decode cX6_movesLine 12 = .ok (.invokevirtual 48, 3) := by decide +kernel
theorem dX6_movesLine_15 : decode cX6_movesLine 15 = .ok (.ireturn, 1) := by decide +kernel
theorem dX6_movesLine_16 : decode cX6_movesLine 16 = .ok (.aload_n 0, 1) := by decide +kernel
theorem dX6_movesLine_17 : decode cX6_movesLine 17 = .ok (.getfield 9, 3) := by decide +kernel
theorem dX6_movesLine_20 : decode cX6_movesLine 20 = .ok (.invokevirtual 52, 3) := by decide +kernel
theorem dX6_movesLine_23 : decode cX6_movesLine 23 = .ok (.aload_n 0, 1) := by decide +kernel
theorem dX6_movesLine_24 : decode cX6_movesLine 24 = .ok (.ldc 184, 2) := by decide +kernel
theorem dX6_movesLine_26 : decode cX6_movesLine 26 = .ok (.invokevirtual 114, 3) := by decide +kernel
theorem dX6_movesLine_29 : decode cX6_movesLine 29 = .ok (.ifCond .eq 13, 3) := by decide +kernel
theorem dX6_movesLine_32 : decode cX6_movesLine 32 = .ok (.aload_n 0, 1) := by decide +kernel
theorem dX6_movesLine_33 : decode cX6_movesLine 33 = .ok (.iconst 1, 1) := by decide +kernel
theorem dX6_movesLine_34 : decode cX6_movesLine 34 = .ok (.bipush 9, 2) := by decide +kernel
theorem dX6_movesLine_36 : decode cX6_movesLine 36 = .ok (.invokevirtual 117, 3) := by decide +kernel
theorem dX6_movesLine_39 : decode cX6_movesLine 39 = .ok (.ifCond .ne 5, 3) := by decide +kernel
theorem dX6_movesLine_42 : decode cX6_movesLine 42 = .ok (.iconst 0, 1) := by decide +kernel
theorem dX6_movesLine_43 : decode cX6_movesLine 43 = .ok (.ireturn, 1) := by decide +kernel
theorem dX6_movesLine_44 : decode cX6_movesLine 44 = .ok (.aload_n 0, 1) := by decide +kernel
theorem dX6_movesLine_45 : decode cX6_movesLine 45 = .ok (.getfield 18, 3) := by decide +kernel
theorem dX6_movesLine_48 : decode cX6_movesLine 48 = .ok (.aload_n 0, 1) := by decide +kernel
theorem dX6_movesLine_49 : decode cX6_movesLine 49 = .ok (.getfield 105, 3) := by decide +kernel
theorem dX6_movesLine_52 : decode cX6_movesLine 52 = .ok (.putfield 186, 3) := by decide +kernel
theorem dX6_movesLine_55 : decode cX6_movesLine 55 = .ok (.iconst 1, 1) := by decide +kernel
theorem dX6_movesLine_56 : decode cX6_movesLine 56 = .ok (.ireturn, 1) := by decide +kernel
theorem dX6_layLine_0 : decode cX6_layLine 0 = .ok (.aload_n 0, 1) := by decide +kernel
theorem dX6_layLine_1 : decode cX6_layLine 1 = .ok (.getfield 18, 3) := by decide +kernel
theorem dX6_layLine_4 : decode cX6_layLine 4 = .ok (.getfield 189, 3) := by decide +kernel
theorem dX6_layLine_7 : decode cX6_layLine 7 = .ok (.bipush 8, 2) := by decide +kernel
theorem dX6_layLine_9 : decode cX6_layLine 9 = .ok (.if_icmp .lt 9, 3) := by decide +kernel
theorem dX6_layLine_12 : decode cX6_layLine 12 = .ok (.aload_n 0, 1) := by decide +kernel
theorem dX6_layLine_13 : decode cX6_layLine 13 = .ok (.iconst 5, 1) := by decide +kernel
theorem dX6_layLine_14 : decode cX6_layLine 14 = .ok (.invokevirtual 48, 3) := by decide +kernel
theorem dX6_layLine_17 : decode cX6_layLine 17 = .ok (.ireturn, 1) := by decide +kernel
theorem dX6_layLine_18 : decode cX6_layLine 18 = .ok (.aload_n 0, 1) := by decide +kernel
theorem dX6_layLine_19 : decode cX6_layLine 19 = .ok (.getfield 18, 3) := by decide +kernel
theorem dX6_layLine_22 : decode cX6_layLine 22 = .ok (.getfield 55, 3) := by decide +kernel
theorem dX6_layLine_25 : decode cX6_layLine 25 = .ok (.ifCond .ne 10, 3) := by decide +kernel
theorem dX6_layLine_28 : decode cX6_layLine 28 = .ok (.aload_n 0, 1) := by decide +kernel
theorem dX6_layLine_29 : decode cX6_layLine 29 = .ok (.bipush 6, 2) := by decide +kernel
theorem dX6_layLine_31 : decode cX6_layLine 31 = .ok (.invokevirtual 48, 3) := by decide +kernel
theorem dX6_layLine_34 : decode cX6_layLine 34 = .ok (.ireturn, 1) := by decide +kernel
theorem dX6_layLine_35 : decode cX6_layLine 35 = .ok (.aload_n 0, 1) := by decide +kernel
theorem dX6_layLine_36 : decode cX6_layLine 36 = .ok (.getfield 9, 3) := by decide +kernel
theorem dX6_layLine_39 : decode cX6_layLine 39 = .ok (.invokevirtual 52, 3) := by decide +kernel
theorem dX6_layLine_42 : decode cX6_layLine 42 = .ok (.aload_n 0, 1) := by decide +kernel
theorem dX6_layLine_43 : decode cX6_layLine 43 = .ok (.getfield 18, 3) := by decide +kernel
theorem dX6_layLine_46 : decode cX6_layLine 46 = .ok (.getfield 192, 3) := by decide +kernel
theorem dX6_layLine_49 : decode cX6_layLine 49 = .ok (.aload_n 0, 1) := by decide +kernel
theorem dX6_layLine_50 : decode cX6_layLine 50 = .ok (.getfield 18, 3) := by decide +kernel
theorem dX6_layLine_53 : decode cX6_layLine 53 = .ok (.getfield 189, 3) := by decide +kernel
theorem dX6_layLine_56 : decode cX6_layLine 56 = .ok (.aaload, 1) := by decide +kernel
theorem dX6_layLine_57 : decode cX6_layLine 57 = .ok (.astore_n 1, 1) := by decide +kernel
theorem dX6_layLine_58 : decode cX6_layLine 58 = .ok (.iconst 0, 1) := by decide +kernel
theorem dX6_layLine_59 : decode cX6_layLine 59 = .ok (.istore_n 2, 1) := by decide +kernel
theorem dX6_layLine_60 : decode cX6_layLine 60 = .ok (.iload_n 2, 1) := by decide +kernel
theorem dX6_layLine_61 : decode cX6_layLine 61 = .ok (.aload_n 0, 1) := by decide +kernel
theorem dX6_layLine_62 : decode cX6_layLine 62 = .ok (.getfield 18, 3) := by decide +kernel
theorem dX6_layLine_65 : decode cX6_layLine 65 = .ok (.getfield 120, 3) := by decide +kernel
theorem dX6_layLine_68 : decode cX6_layLine 68 = .ok (.if_icmp .ge 56, 3) := by decide +kernel
theorem dX6_layLine_71 : decode cX6_layLine 71 = .ok (.iload_n 2, 1) := by decide +kernel
theorem dX6_layLine_72 : decode cX6_layLine 72 = .ok (.ifCond .le 27, 3) := by decide +kernel
theorem dX6_layLine_75 : decode cX6_layLine 75 = .ok (.aload_n 0, 1) := by decide +kernel
theorem dX6_layLine_76 : decode cX6_layLine 76 = .ok (.getfield 9, 3) := by decide +kernel
theorem dX6_layLine_79 : decode cX6_layLine 79 = .ok (.getfield 42, 3) := by decide +kernel
theorem dX6_layLine_82 : decode cX6_layLine 82 = .ok (.iconst 4, 1) := by decide +kernel
theorem dX6_layLine_83 : decode cX6_layLine 83 = .ok (.if_icmp .eq 9, 3) := by decide +kernel
theorem dX6_layLine_86 : decode cX6_layLine 86 = .ok (.aload_n 0, 1) := by decide +kernel
theorem dX6_layLine_87 : decode cX6_layLine 87 = .ok (.iconst 1, 1) := by decide +kernel
theorem dX6_layLine_88 : decode cX6_layLine 88 = .ok (.invokevirtual 48, 3) := by decide +kernel
theorem dX6_layLine_91 : decode cX6_layLine 91 = .ok (.ireturn, 1) := by decide +kernel
theorem dX6_layLine_92 : decode cX6_layLine 92 = .ok (.aload_n 0, 1) := by decide +kernel
theorem dX6_layLine_93 : decode cX6_layLine 93 = .ok (.getfield 9, 3) := by decide +kernel
theorem dX6_layLine_96 : decode cX6_layLine 96 = .ok (.invokevirtual 52, 3) := by decide +kernel
theorem dX6_layLine_99 : decode cX6_layLine 99 = .ok (.aload_n 0, 1) := by decide +kernel
theorem dX6_layLine_100 : decode cX6_layLine 100 = .ok (.iconst 0, 1) := by decide +kernel
theorem dX6_layLine_101 : decode cX6_layLine 101 = .ok (.bipush 8, 2) := by decide +kernel
theorem dX6_layLine_103 : decode cX6_layLine 103 = .ok (.invokevirtual 117, 3) := by decide +kernel
theorem dX6_layLine_106 : decode cX6_layLine 106 = .ok (.ifCond .ne 5, 3) := by decide +kernel
theorem dX6_layLine_109 : decode cX6_layLine 109 = .ok (.iconst 0, 1) := by decide +kernel
theorem dX6_layLine_110 : decode cX6_layLine 110 = .ok (.ireturn, 1) := by decide +kernel
theorem dX6_layLine_111 : decode cX6_layLine 111 = .ok (.aload_n 1, 1) := by decide +kernel
theorem dX6_layLine_112 : decode cX6_layLine 112 = .ok (.iload_n 2, 1) := by decide +kernel
theorem dX6_layLine_113 : decode cX6_layLine 113 = .ok (.aload_n 0, 1) := by decide +kernel
theorem dX6_layLine_114 : decode cX6_layLine 114 = .ok (.getfield 105, 3) := by decide +kernel
theorem dX6_layLine_117 : decode cX6_layLine 117 = .ok (.iastore, 1) := by decide +kernel
theorem dX6_layLine_118 : decode cX6_layLine 118 = .ok (.iinc 2 1, 3) := by decide +kernel
theorem dX6_layLine_121 : decode cX6_layLine 121 = .ok (.goto (-61), 3) := by decide +kernel
theorem dX6_layLine_124 : decode cX6_layLine 124 = .ok (.aload_n 0, 1) := by decide +kernel
theorem dX6_layLine_125 : decode cX6_layLine 125 = .ok (.getfield 18, 3) := by decide +kernel
theorem dX6_layLine_128 : decode cX6_layLine 128 = .ok (.dup, 1) := by decide +kernel
theorem dX6_layLine_129 : decode cX6_layLine 129 = .ok (.getfield 189, 3) := by decide +kernel
theorem dX6_layLine_132 : decode cX6_layLine 132 = .ok (.iconst 1, 1) := by decide +kernel
theorem dX6_layLine_133 : decode cX6_layLine 133 = .ok (.iadd, 1) := by decide +kernel
theorem dX6_layLine_134 : decode cX6_layLine 134 = .ok (.putfield 189, 3) := by decide +kernel
theorem dX6_layLine_137 : decode cX6_layLine 137 = .ok (.iconst 1, 1) := by decide +kernel
theorem dX6_layLine_138 : decode cX6_layLine 138 = .ok (.ireturn, 1) := by decide +kernel
theorem dX7_init_0 : decode cX7_init 0 = .ok (.aload_n 0, 1) := by decide +kernel
theorem dX7_init_1 : decode cX7_init 1 = .ok (.invokespecial 3, 3) := by decide +kernel
theorem dX7_init_4 : decode cX7_init 4 = .ok (.aload_n 0, 1) := by decide +kernel
theorem dX7_init_5 : decode cX7_init 5 = .ok (.sipush 900, 3) := by decide +kernel
theorem dX7_init_8 : decode cX7_init 8 = .ok (.newarray .int, 2) := by decide +kernel
theorem dX7_init_10 : decode cX7_init 10 = .ok (.putfield 9, 3) := by decide +kernel
theorem dX7_init_13 : decode cX7_init 13 = .ok (.return_, 1) := by decide +kernel
theorem dX7_add_0 : decode cX7_add 0 = .ok (.bipush 24, 2) := by decide +kernel
theorem dX7_add_2 : decode cX7_add 2 = .ok (.istore_n 2, 1) := by decide +kernel
theorem dX7_add_3 : decode cX7_add 3 = .ok (.iload_n 2, 1) := by decide +kernel
theorem dX7_add_4 : decode cX7_add 4 = .ok (.ifCond .lt 45, 3) := by decide +kernel
theorem dX7_add_7 : decode cX7_add 7 = .ok (.aload_n 0, 1) := by decide +kernel
theorem dX7_add_8 : decode cX7_add 8 = .ok (.getfield 15, 3) := by decide +kernel
theorem dX7_add_11 : decode cX7_add 11 = .ok (.sipush 900, 3) := by decide +kernel
theorem dX7_add_14 : decode cX7_add 14 = .ok (.if_icmp .ge 29, 3) := by decide +kernel
theorem dX7_add_17 : decode cX7_add 17 = .ok (.aload_n 0, 1) := by decide +kernel
theorem dX7_add_18 : decode cX7_add 18 = .ok (.getfield 9, 3) := by decide +kernel
theorem dX7_add_21 : decode cX7_add 21 = .ok (.aload_n 0, 1) := by decide +kernel
theorem dX7_add_22 : decode cX7_add 22 = .ok (.getfield 15, 3) := by decide +kernel
theorem dX7_add_25 : decode cX7_add 25 = .ok (.iload_n 1, 1) := by decide +kernel
theorem dX7_add_26 : decode cX7_add 26 = .ok (.iload_n 2, 1) := by decide +kernel
theorem dX7_add_27 : decode cX7_add 27 = .ok (.ishr, 1) := by decide +kernel
theorem dX7_add_28 : decode cX7_add 28 = .ok (.sipush 255, 3) := by decide +kernel
theorem dX7_add_31 : decode cX7_add 31 = .ok (.iand, 1) := by decide +kernel
theorem dX7_add_32 : decode cX7_add 32 = .ok (.iastore, 1) := by decide +kernel
theorem dX7_add_33 : decode cX7_add 33 = .ok (.aload_n 0, 1) := by decide +kernel
theorem dX7_add_34 : decode cX7_add 34 = .ok (.dup, 1) := by decide +kernel
theorem dX7_add_35 : decode cX7_add 35 = .ok (.getfield 15, 3) := by decide +kernel
theorem dX7_add_38 : decode cX7_add 38 = .ok (.iconst 1, 1) := by decide +kernel
theorem dX7_add_39 : decode cX7_add 39 = .ok (.iadd, 1) := by decide +kernel
theorem dX7_add_40 : decode cX7_add 40 = .ok (.putfield 15, 3) := by decide +kernel
theorem dX7_add_43 : decode cX7_add 43 = .ok (.iinc 2 (-8), 3) := by decide +kernel
theorem dX7_add_46 : decode cX7_add 46 = .ok (.goto (-43), 3) := by decide +kernel
theorem dX7_add_49 : decode cX7_add 49 = .ok (.return_, 1) := by decide +kernel
theorem dX7_begin_0 : decode cX7_begin 0 = .ok (.aload_n 0, 1) := by decide +kernel
theorem dX7_begin_1 : decode cX7_begin 1 = .ok (.iload_n 1, 1) := by decide +kernel
theorem dX7_begin_2 : decode cX7_begin 2 = .ok (.sipush 900, 3) := by decide +kernel
theorem dX7_begin_5 : decode cX7_begin 5 = .ok (.invokestatic 19, 3) := by decide +kernel
theorem dX7_begin_8 : decode cX7_begin 8 = .ok (.putfield 25, 3) := by decide +kernel
theorem dX7_begin_11 : decode cX7_begin 11 = .ok (.aload_n 0, 1) := by decide +kernel
theorem dX7_begin_12 : decode cX7_begin 12 = .ok (.iconst 0, 1) := by decide +kernel
theorem dX7_begin_13 : decode cX7_begin 13 = .ok (.putfield 28, 3) := by decide +kernel
theorem dX7_begin_16 : decode cX7_begin 16 = .ok (.aload_n 0, 1) := by decide +kernel
theorem dX7_begin_17 : decode cX7_begin 17 = .ok (.invokevirtual 31, 3) := by decide +kernel
theorem dX7_begin_20 : decode cX7_begin 20 = .ok (.return_, 1) := by decide +kernel
theorem dX7_advance_0 : decode cX7_advance 0 = .ok (.aload_n 0, 1) := by decide +kernel
theorem dX7_advance_1 : decode cX7_advance 1 = .ok (.getfield 28, 3) := by decide +kernel
theorem dX7_advance_4 : decode cX7_advance 4 = .ok (.istore_n 1, 1) := by decide +kernel
theorem dX7_advance_5 : decode cX7_advance 5 = .ok (.iload_n 1, 1) := by decide +kernel
theorem dX7_advance_6 : decode cX7_advance 6 = .ok (.aload_n 0, 1) := by decide +kernel
theorem dX7_advance_7 : decode cX7_advance 7 = .ok (.getfield 25, 3) := by decide +kernel
theorem dX7_advance_10 : decode cX7_advance 10 = .ok (.if_icmp .ge 20, 3) := by decide +kernel
theorem dX7_advance_13 : decode cX7_advance 13 = .ok (.aload_n 0, 1) := by decide +kernel
theorem dX7_advance_14 : decode cX7_advance 14 = .ok (.getfield 9, 3) := by decide +kernel
theorem dX7_advance_17 : decode cX7_advance 17 = .ok (.iload_n 1, 1) := by decide +kernel
theorem dX7_advance_18 : decode cX7_advance 18 = .ok (.iaload, 1) := by decide +kernel
theorem dX7_advance_19 : decode cX7_advance 19 = .ok (.bipush 32, 2) := by decide +kernel
theorem dX7_advance_21 : decode cX7_advance 21 = .ok (.if_icmp .ne 9, 3) := by decide +kernel
theorem dX7_advance_24 : decode cX7_advance 24 = .ok (.iinc 1 1, 3) := by decide +kernel
theorem dX7_advance_27 : decode cX7_advance 27 = .ok (.goto (-22), 3) := by decide +kernel
theorem dX7_advance_30 : decode cX7_advance 30 = .ok (.aload_n 0, 1) := by decide +kernel
theorem dX7_advance_31 : decode cX7_advance 31 = .ok (.iload_n 1, 1) := by decide +kernel
theorem dX7_advance_32 : decode cX7_advance 32 = .ok (.putfield 34, 3) := by decide +kernel
theorem dX7_advance_35 : decode cX7_advance 35 = .ok (.iload_n 1, 1) := by decide +kernel
theorem dX7_advance_36 : decode cX7_advance 36 = .ok (.aload_n 0, 1) := by decide +kernel
theorem dX7_advance_37 : decode cX7_advance 37 = .ok (.getfield 25, 3) := by decide +kernel
theorem dX7_advance_40 : decode cX7_advance 40 = .ok (.if_icmp .lt 11, 3) := by decide +kernel
theorem dX7_advance_43 : decode cX7_advance 43 = .ok (.aload_n 0, 1) := by decide +kernel
theorem dX7_advance_44 : decode cX7_advance 44 = .ok (.iconst 0, 1) := by decide +kernel
theorem dX7_advance_45 : decode cX7_advance 45 = .ok (.putfield 37, 3) := by decide +kernel
theorem dX7_advance_48 : decode cX7_advance 48 = .ok (.goto 83, 3) := by decide +kernel
theorem dX7_advance_51 : decode cX7_advance 51 = .ok (.aload_n 0, 1) := by decide +kernel
theorem dX7_advance_52 : decode cX7_advance 52 = .ok (.getfield 9, 3) := by decide +kernel
theorem dX7_advance_55 : decode cX7_advance 55 = .ok (.iload_n 1, 1) := by decide +kernel
theorem dX7_advance_56 : decode cX7_advance 56 = .ok (.iaload, 1) := by decide +kernel
theorem dX7_advance_57 : decode cX7_advance 57 = .ok (.invokestatic 40, 3) := by decide +kernel
theorem dX7_advance_60 : decode cX7_advance 60 = .ok (.ifCond .eq 10, 3) := by decide +kernel
theorem dX7_advance_63 : decode cX7_advance 63 = .ok (.aload_n 0, 1) := by decide +kernel
theorem dX7_advance_64 : decode cX7_advance 64 = .ok (.invokevirtual 44, 3) := by decide +kernel
theorem dX7_advance_67 : decode cX7_advance 67 = .ok (.goto 64, 3) := by decide +kernel
theorem dX7_advance_70 : decode cX7_advance 70 = .ok (.aload_n 0, 1) := by decide +kernel
theorem dX7_advance_71 : decode cX7_advance 71 = .ok (.getfield 9, 3) := by decide +kernel
theorem dX7_advance_74 : decode cX7_advance 74 = .ok (.iload_n 1, 1) := by decide +kernel
theorem dX7_advance_75 : decode cX7_advance 75 = .ok (.iaload, 1) := by decide +kernel
theorem dX7_advance_76 : decode cX7_advance 76 = .ok (.invokestatic 47, 3) := by decide +kernel
theorem dX7_advance_79 : decode cX7_advance 79 = .ok (.ifCond .eq 10, 3) := by decide +kernel
theorem dX7_advance_82 : decode cX7_advance 82 = .ok (.aload_n 0, 1) := by decide +kernel
theorem dX7_advance_83 : decode cX7_advance 83 = .ok (.invokevirtual 50, 3) := by decide +kernel
theorem dX7_advance_86 : decode cX7_advance 86 = .ok (.goto 45, 3) := by decide +kernel
theorem dX7_advance_89 : decode cX7_advance 89 = .ok (.aload_n 0, 1) := by decide +kernel
theorem dX7_advance_90 : decode cX7_advance 90 = .ok (.aload_n 0, 1) := by decide +kernel
theorem dX7_advance_91 : decode cX7_advance 91 = .ok (.getfield 9, 3) := by decide +kernel
theorem dX7_advance_94 : decode cX7_advance 94 = .ok (.iload_n 1, 1) := by decide +kernel
theorem dX7_advance_95 : decode cX7_advance 95 = .ok (.iaload, 1) := by decide +kernel
theorem dX7_advance_96 : decode cX7_advance 96 = .ok (.bipush 59, 2) := by decide +kernel
theorem dX7_advance_98 : decode cX7_advance 98 = .ok (.if_icmp .ne 7, 3) := by decide +kernel
theorem dX7_advance_101 : decode cX7_advance 101 = .ok (.iconst 3, 1) := by decide +kernel
theorem dX7_advance_102 : decode cX7_advance 102 = .ok (.goto 19, 3) := by decide +kernel
theorem dX7_advance_105 : decode cX7_advance 105 = .ok (.aload_n 0, 1) := by decide +kernel
theorem dX7_advance_106 : decode cX7_advance 106 = .ok (.getfield 9, 3) := by decide +kernel
theorem dX7_advance_109 : decode cX7_advance 109 = .ok (.iload_n 1, 1) := by decide +kernel
theorem dX7_advance_110 : decode cX7_advance 110 = .ok (.iaload, 1) := by decide +kernel
theorem dX7_advance_111 : decode cX7_advance 111 = .ok (.bipush 44, 2) := by decide +kernel
theorem dX7_advance_113 : decode cX7_advance 113 = .ok (.if_icmp .ne 7, 3) := by decide +kernel
theorem dX7_advance_116 : decode cX7_advance 116 = .ok (.iconst 4, 1) := by decide +kernel
theorem dX7_advance_117 : decode cX7_advance 117 = .ok (.goto 4, 3) := by decide +kernel
theorem dX7_advance_120 : decode cX7_advance 120 = .ok (.iconst 5, 1) := by decide +kernel
theorem dX7_advance_121 : decode cX7_advance 121 = .ok (.putfield 37, 3) := by decide +kernel
theorem dX7_advance_124 : decode cX7_advance 124 = .ok (.aload_n 0, 1) := by decide +kernel
theorem dX7_advance_125 : decode cX7_advance 125 = .ok (.iload_n 1, 1) := by decide +kernel
theorem dX7_advance_126 : decode cX7_advance 126 = .ok (.iconst 1, 1) := by decide +kernel
theorem dX7_advance_127 : decode cX7_advance 127 = .ok (.iadd, 1) := by decide +kernel
theorem dX7_advance_128 : decode cX7_advance 128 = .ok (.putfield 28, 3) := by decide +kernel
theorem dX7_advance_131 : decode cX7_advance 131 = .ok (.return_, 1) := by decide +kernel
theorem dX7_word_0 : decode cX7_word 0 = .ok (.aload_n 0, 1) := by decide +kernel
theorem dX7_word_1 : decode cX7_word 1 = .ok (.getfield 34, 3) := by decide +kernel
theorem dX7_word_4 : decode cX7_word 4 = .ok (.istore_n 1, 1) := by decide +kernel
theorem dX7_word_5 : decode cX7_word 5 = .ok (.aload_n 0, 1) := by decide +kernel
theorem dX7_word_6 : decode cX7_word 6 = .ok (.lconst 0, 1) := by decide +kernel
theorem dX7_word_7 : decode cX7_word 7 = .ok (.putfield 53, 3) := by decide +kernel
theorem dX7_word_10 : decode cX7_word 10 = .ok (.iload_n 1, 1) := by decide +kernel
theorem dX7_word_11 : decode cX7_word 11 = .ok (.aload_n 0, 1) := by decide +kernel
theorem dX7_word_12 : decode cX7_word 12 = .ok (.getfield 25, 3) := by decide +kernel
theorem dX7_word_15 : decode cX7_word 15 = .ok (.if_icmp .ge 47, 3) := by decide +kernel
theorem dX7_word_18 : decode cX7_word 18 = .ok (.aload_n 0, 1) := by decide +kernel
theorem dX7_word_19 : decode cX7_word 19 = .ok (.getfield 9, 3) := by decide +kernel
theorem dX7_word_22 : decode cX7_word 22 = .ok (.iload_n 1, 1) := by decide +kernel
theorem dX7_word_23 : decode cX7_word 23 = .ok (.iaload, 1) := by decide +kernel
theorem dX7_word_24 : decode cX7_word 24 = .ok (.invokestatic 40, 3) := by decide +kernel
theorem dX7_word_27 : decode cX7_word 27 = .ok (.ifCond .eq 35, 3) := by decide +kernel
theorem dX7_word_30 : decode cX7_word 30 = .ok (.aload_n 0, 1) := by decide +kernel
theorem dX7_word_31 : decode cX7_word 31 = .ok (.aload_n 0, 1) := by decide +kernel
theorem dX7_word_32 : decode cX7_word 32 = .ok (.getfield 53, 3) := by decide +kernel
theorem dX7_word_35 : decode cX7_word 35 = .ok (.ldc2_w 57, 3) := by decide +kernel
theorem dX7_word_38 : decode cX7_word 38 = .ok (.lmul, 1) := by decide +kernel
theorem dX7_word_39 : decode cX7_word 39 = .ok (.aload_n 0, 1) := by decide +kernel
theorem dX7_word_40 : decode cX7_word 40 = .ok (.getfield 9, 3) := by decide +kernel
theorem dX7_word_43 : decode cX7_word 43 = .ok (.iload_n 1, 1) := by decide +kernel
theorem dX7_word_44 : decode cX7_word 44 = .ok (.iaload, 1) := by decide +kernel
theorem dX7_word_45 : decode cX7_word 45 = .ok (.i2l, 1) := by decide +kernel
theorem dX7_word_46 : decode cX7_word 46 = .ok (.ladd, 1) := by decide +kernel
theorem dX7_word_47 : decode cX7_word 47 = .ok (.ldc2_w 59, 3) := by decide +kernel
theorem dX7_word_50 : decode cX7_word 50 = .ok (.lsub, 1) := by decide +kernel
theorem dX7_word_51 : decode cX7_word 51 = .ok (.lconst 1, 1) := by decide +kernel
theorem dX7_word_52 : decode cX7_word 52 = .ok (.ladd, 1) := by decide +kernel
theorem dX7_word_53 : decode cX7_word 53 = .ok (.putfield 53, 3) := by decide +kernel
theorem dX7_word_56 : decode cX7_word 56 = .ok (.iinc 1 1, 3) := by decide +kernel
theorem dX7_word_59 : decode cX7_word 59 = .ok (.goto (-49), 3) := by decide +kernel
theorem dX7_word_62 : decode cX7_word 62 = .ok (.aload_n 0, 1) := by decide +kernel
theorem dX7_word_63 : decode cX7_word 63 = .ok (.iload_n 1, 1) := by decide +kernel
theorem dX7_word_64 : decode cX7_word 64 = .ok (.aload_n 0, 1) := by decide +kernel
theorem dX7_word_65 : decode cX7_word 65 = .ok (.getfield 34, 3) := by decide +kernel
theorem dX7_word_68 : decode cX7_word 68 = .ok (.isub, 1) := by decide +kernel
theorem dX7_word_69 : decode cX7_word 69 = .ok (.bipush 8, 2) := by decide +kernel
theorem dX7_word_71 : decode cX7_word 71 = .ok (.if_icmp .le 7, 3) := by decide +kernel
theorem dX7_word_74 : decode cX7_word 74 = .ok (.iconst 5, 1) := by decide +kernel
theorem dX7_word_75 : decode cX7_word 75 = .ok (.goto 4, 3) := by decide +kernel
theorem dX7_word_78 : decode cX7_word 78 = .ok (.iconst 1, 1) := by decide +kernel
theorem dX7_word_79 : decode cX7_word 79 = .ok (.putfield 37, 3) := by decide +kernel
theorem dX7_word_82 : decode cX7_word 82 = .ok (.aload_n 0, 1) := by decide +kernel
theorem dX7_word_83 : decode cX7_word 83 = .ok (.iload_n 1, 1) := by decide +kernel
theorem dX7_word_84 : decode cX7_word 84 = .ok (.putfield 28, 3) := by decide +kernel
theorem dX7_word_87 : decode cX7_word 87 = .ok (.return_, 1) := by decide +kernel
theorem dX7_whole_0 : decode cX7_whole 0 = .ok (.aload_n 0, 1) := by decide +kernel
theorem dX7_whole_1 : decode cX7_whole 1 = .ok (.getfield 34, 3) := by decide +kernel
theorem dX7_whole_4 : decode cX7_whole 4 = .ok (.istore_n 1, 1) := by decide +kernel
theorem dX7_whole_5 : decode cX7_whole 5 = .ok (.aload_n 0, 1) := by decide +kernel
theorem dX7_whole_6 : decode cX7_whole 6 = .ok (.iconst 0, 1) := by decide +kernel
theorem dX7_whole_7 : decode cX7_whole 7 = .ok (.putfield 61, 3) := by decide +kernel
theorem dX7_whole_10 : decode cX7_whole 10 = .ok (.iload_n 1, 1) := by decide +kernel
theorem dX7_whole_11 : decode cX7_whole 11 = .ok (.aload_n 0, 1) := by decide +kernel
theorem dX7_whole_12 : decode cX7_whole 12 = .ok (.getfield 25, 3) := by decide +kernel
theorem dX7_whole_15 : decode cX7_whole 15 = .ok (.if_icmp .ge 42, 3) := by decide +kernel
theorem dX7_whole_18 : decode cX7_whole 18 = .ok (.aload_n 0, 1) := by decide +kernel
theorem dX7_whole_19 : decode cX7_whole 19 = .ok (.getfield 9, 3) := by decide +kernel
theorem dX7_whole_22 : decode cX7_whole 22 = .ok (.iload_n 1, 1) := by decide +kernel
theorem dX7_whole_23 : decode cX7_whole 23 = .ok (.iaload, 1) := by decide +kernel
theorem dX7_whole_24 : decode cX7_whole 24 = .ok (.invokestatic 47, 3) := by decide +kernel
theorem dX7_whole_27 : decode cX7_whole 27 = .ok (.ifCond .eq 30, 3) := by decide +kernel
theorem dX7_whole_30 : decode cX7_whole 30 = .ok (.aload_n 0, 1) := by decide +kernel
theorem dX7_whole_31 : decode cX7_whole 31 = .ok (.aload_n 0, 1) := by decide +kernel
theorem dX7_whole_32 : decode cX7_whole 32 = .ok (.getfield 61, 3) := by decide +kernel
theorem dX7_whole_35 : decode cX7_whole 35 = .ok (.bipush 10, 2) := by decide +kernel
theorem dX7_whole_37 : decode cX7_whole 37 = .ok (.imul, 1) := by decide +kernel
theorem dX7_whole_38 : decode cX7_whole 38 = .ok (.aload_n 0, 1) := by decide +kernel
theorem dX7_whole_39 : decode cX7_whole 39 = .ok (.getfield 9, 3) := by decide +kernel
theorem dX7_whole_42 : decode cX7_whole 42 = .ok (.iload_n 1, 1) := by decide +kernel
theorem dX7_whole_43 : decode cX7_whole 43 = .ok (.iaload, 1) := by decide +kernel
theorem dX7_whole_44 : decode cX7_whole 44 = .ok (.iadd, 1) := by decide +kernel
theorem dX7_whole_45 : decode cX7_whole 45 = .ok (.bipush 48, 2) := by decide +kernel
theorem dX7_whole_47 : decode cX7_whole 47 = .ok (.isub, 1) := by decide +kernel
theorem dX7_whole_48 : decode cX7_whole 48 = .ok (.putfield 61, 3) := by decide +kernel
theorem dX7_whole_51 : decode cX7_whole 51 = .ok (.iinc 1 1, 3) := by decide +kernel
theorem dX7_whole_54 : decode cX7_whole 54 = .ok (.goto (-44), 3) := by decide +kernel
theorem dX7_whole_57 : decode cX7_whole 57 = .ok (.aload_n 0, 1) := by decide +kernel
theorem dX7_whole_58 : decode cX7_whole 58 = .ok (.iload_n 1, 1) := by decide +kernel
theorem dX7_whole_59 : decode cX7_whole 59 = .ok (.aload_n 0, 1) := by decide +kernel
theorem dX7_whole_60 : decode cX7_whole 60 = .ok (.getfield 34, 3) := by decide +kernel
theorem dX7_whole_63 : decode cX7_whole 63 = .ok (.isub, 1) := by decide +kernel
theorem dX7_whole_64 : decode cX7_whole 64 = .ok (.iconst 3, 1) := by decide +kernel
theorem dX7_whole_65 : decode cX7_whole 65 = .ok (.if_icmp .le 7, 3) := by decide +kernel
theorem dX7_whole_68 : decode cX7_whole 68 = .ok (.iconst 5, 1) := by decide +kernel
theorem dX7_whole_69 : decode cX7_whole 69 = .ok (.goto 4, 3) := by decide +kernel
theorem dX7_whole_72 : decode cX7_whole 72 = .ok (.iconst 2, 1) := by decide +kernel
theorem dX7_whole_73 : decode cX7_whole 73 = .ok (.putfield 37, 3) := by decide +kernel
theorem dX7_whole_76 : decode cX7_whole 76 = .ok (.aload_n 0, 1) := by decide +kernel
theorem dX7_whole_77 : decode cX7_whole 77 = .ok (.iload_n 1, 1) := by decide +kernel
theorem dX7_whole_78 : decode cX7_whole 78 = .ok (.putfield 28, 3) := by decide +kernel
theorem dX7_whole_81 : decode cX7_whole 81 = .ok (.return_, 1) := by decide +kernel
theorem dX7_isLetter_0 : decode cX7_isLetter 0 = .ok (.iload_n 0, 1) := by decide +kernel
theorem dX7_isLetter_1 : decode cX7_isLetter 1 = .ok (.bipush 97, 2) := by decide +kernel
theorem dX7_isLetter_3 : decode cX7_isLetter 3 = .ok (.if_icmp .lt 13, 3) := by decide +kernel
theorem dX7_isLetter_6 : decode cX7_isLetter 6 = .ok (.iload_n 0, 1) := by decide +kernel
theorem dX7_isLetter_7 : decode cX7_isLetter 7 = .ok (.bipush 122, 2) := by decide +kernel
theorem dX7_isLetter_9 : decode cX7_isLetter 9 = .ok (.if_icmp .gt 7, 3) := by decide +kernel
theorem dX7_isLetter_12 : decode cX7_isLetter 12 = .ok (.iconst 1, 1) := by decide +kernel
theorem dX7_isLetter_13 : decode cX7_isLetter 13 = .ok (.goto 4, 3) := by decide +kernel
theorem dX7_isLetter_16 : decode cX7_isLetter 16 = .ok (.iconst 0, 1) := by decide +kernel
theorem dX7_isLetter_17 : decode cX7_isLetter 17 = .ok (.ireturn, 1) := by decide +kernel
theorem dX7_isDigit_0 : decode cX7_isDigit 0 = .ok (.iload_n 0, 1) := by decide +kernel
theorem dX7_isDigit_1 : decode cX7_isDigit 1 = .ok (.bipush 48, 2) := by decide +kernel
theorem dX7_isDigit_3 : decode cX7_isDigit 3 = .ok (.if_icmp .lt 13, 3) := by decide +kernel
theorem dX7_isDigit_6 : decode cX7_isDigit 6 = .ok (.iload_n 0, 1) := by decide +kernel
theorem dX7_isDigit_7 : decode cX7_isDigit 7 = .ok (.bipush 57, 2) := by decide +kernel
theorem dX7_isDigit_9 : decode cX7_isDigit 9 = .ok (.if_icmp .gt 7, 3) := by decide +kernel
theorem dX7_isDigit_12 : decode cX7_isDigit 12 = .ok (.iconst 1, 1) := by decide +kernel
theorem dX7_isDigit_13 : decode cX7_isDigit 13 = .ok (.goto 4, 3) := by decide +kernel
theorem dX7_isDigit_16 : decode cX7_isDigit 16 = .ok (.iconst 0, 1) := by decide +kernel
theorem dX7_isDigit_17 : decode cX7_isDigit 17 = .ok (.ireturn, 1) := by decide +kernel
theorem dX7_says_0 : decode cX7_says 0 = .ok (.aload_n 0, 1) := by decide +kernel
theorem dX7_says_1 : decode cX7_says 1 = .ok (.getfield 37, 3) := by decide +kernel
theorem dX7_says_4 : decode cX7_says 4 = .ok (.iconst 1, 1) := by decide +kernel
theorem dX7_says_5 : decode cX7_says 5 = .ok (.if_icmp .ne 19, 3) := by decide +kernel
theorem dX7_says_8 : decode cX7_says 8 = .ok (.aload_n 0, 1) := by decide +kernel
theorem dX7_says_9 : decode cX7_says 9 = .ok (.getfield 28, 3) := by decide +kernel
theorem dX7_says_12 : decode cX7_says 12 = .ok (.aload_n 0, 1) := by decide +kernel
theorem dX7_says_13 : decode cX7_says 13 = .ok (.getfield 34, 3) := by decide +kernel
theorem dX7_says_16 : decode cX7_says 16 = .ok (.isub, 1) := by decide +kernel
theorem dX7_says_17 : decode cX7_says 17 = .ok (.aload_n 1, 1) := by decide +kernel
theorem dX7_says_18 : decode cX7_says 18 = .ok (.invokevirtual 64, 3) := by decide +kernel
theorem dX7_says_21 : decode cX7_says 21 = .ok (.if_icmp .eq 5, 3) := by decide +kernel
theorem dX7_says_24 : decode cX7_says 24 = .ok (.iconst 0, 1) := by decide +kernel
theorem dX7_says_25 : decode cX7_says 25 = .ok (.ireturn, 1) := by decide +kernel
theorem dX7_says_26 : decode cX7_says 26 = .ok (.iconst 0, 1) := by decide +kernel
theorem dX7_says_27 : decode cX7_says 27 = .ok (.istore_n 2, 1) := by decide +kernel
theorem dX7_says_28 : decode cX7_says 28 = .ok (.iload_n 2, 1) := by decide +kernel
theorem dX7_says_29 : decode cX7_says 29 = .ok (.aload_n 1, 1) := by decide +kernel
theorem dX7_says_30 : decode cX7_says 30 = .ok (.invokevirtual 64, 3) := by decide +kernel
theorem dX7_says_33 : decode cX7_says 33 = .ok (.if_icmp .ge 30, 3) := by decide +kernel
theorem dX7_says_36 : decode cX7_says 36 = .ok (.aload_n 0, 1) := by decide +kernel
theorem dX7_says_37 : decode cX7_says 37 = .ok (.getfield 9, 3) := by decide +kernel
theorem dX7_says_40 : decode cX7_says 40 = .ok (.aload_n 0, 1) := by decide +kernel
theorem dX7_says_41 : decode cX7_says 41 = .ok (.getfield 34, 3) := by decide +kernel
theorem dX7_says_44 : decode cX7_says 44 = .ok (.iload_n 2, 1) := by decide +kernel
theorem dX7_says_45 : decode cX7_says 45 = .ok (.iadd, 1) := by decide +kernel
theorem dX7_says_46 : decode cX7_says 46 = .ok (.iaload, 1) := by decide +kernel
theorem dX7_says_47 : decode cX7_says 47 = .ok (.aload_n 1, 1) := by decide +kernel
theorem dX7_says_48 : decode cX7_says 48 = .ok (.iload_n 2, 1) := by decide +kernel
theorem dX7_says_49 : decode cX7_says 49 = .ok (.invokevirtual 70, 3) := by decide +kernel
theorem dX7_says_52 : decode cX7_says 52 = .ok (.if_icmp .eq 5, 3) := by decide +kernel
theorem dX7_says_55 : decode cX7_says 55 = .ok (.iconst 0, 1) := by decide +kernel
theorem dX7_says_56 : decode cX7_says 56 = .ok (.ireturn, 1) := by decide +kernel
theorem dX7_says_57 : decode cX7_says 57 = .ok (.iinc 2 1, 3) := by decide +kernel
theorem dX7_says_60 : decode cX7_says 60 = .ok (.goto (-32), 3) := by decide +kernel
theorem dX7_says_63 : decode cX7_says 63 = .ok (.iconst 1, 1) := by decide +kernel
theorem dX7_says_64 : decode cX7_says 64 = .ok (.ireturn, 1) := by decide +kernel
theorem dX8_init_0 : decode cX8_init 0 = .ok (.aload_n 0, 1) := by decide +kernel
theorem dX8_init_1 : decode cX8_init 1 = .ok (.invokespecial 3, 3) := by decide +kernel
theorem dX8_init_4 : decode cX8_init 4 = .ok (.aload_n 0, 1) := by decide +kernel
theorem dX8_init_5 : decode cX8_init 5 = .ok (.new 9, 3) := by decide +kernel
theorem dX8_init_8 : decode cX8_init 8 = .ok (.dup, 1) := by decide +kernel
theorem dX8_init_9 : decode cX8_init 9 = .ok (.invokespecial 11, 3) := by decide +kernel
theorem dX8_init_12 : decode cX8_init 12 = .ok (.putfield 12, 3) := by decide +kernel
theorem dX8_init_15 : decode cX8_init 15 = .ok (.aload_n 0, 1) := by decide +kernel
theorem dX8_init_16 : decode cX8_init 16 = .ok (.new 16, 3) := by decide +kernel
theorem dX8_init_19 : decode cX8_init 19 = .ok (.dup, 1) := by decide +kernel
theorem dX8_init_20 : decode cX8_init 20 = .ok (.aload_n 0, 1) := by decide +kernel
theorem dX8_init_21 : decode cX8_init 21 = .ok (.getfield 12, 3) := by decide +kernel
theorem dX8_init_24 : decode cX8_init 24 = .ok (.invokespecial 18, 3) := by decide +kernel
theorem dX8_init_27 : decode cX8_init 27 = .ok (.putfield 21, 3) := by decide +kernel
theorem dX8_init_30 : decode cX8_init 30 = .ok (.aload_n 0, 1) := by decide +kernel
theorem dX8_init_31 : decode cX8_init 31 = .ok (.new 25, 3) := by decide +kernel
theorem dX8_init_34 : decode cX8_init 34 = .ok (.dup, 1) := by decide +kernel
theorem dX8_init_35 : decode cX8_init 35 = .ok (.invokespecial 27, 3) := by decide +kernel
theorem dX8_init_38 : decode cX8_init 38 = .ok (.putfield 28, 3) := by decide +kernel
theorem dX8_init_41 : decode cX8_init 41 = .ok (.aload_n 0, 1) := by decide +kernel
theorem dX8_init_42 : decode cX8_init 42 = .ok (.new 25, 3) := by decide +kernel
theorem dX8_init_45 : decode cX8_init 45 = .ok (.dup, 1) := by decide +kernel
theorem dX8_init_46 : decode cX8_init 46 = .ok (.invokespecial 27, 3) := by decide +kernel
theorem dX8_init_49 : decode cX8_init 49 = .ok (.putfield 32, 3) := by decide +kernel
theorem dX8_init_52 : decode cX8_init 52 = .ok (.aload_n 0, 1) := by decide +kernel
theorem dX8_init_53 : decode cX8_init 53 = .ok (.new 35, 3) := by decide +kernel
theorem dX8_init_56 : decode cX8_init 56 = .ok (.dup, 1) := by decide +kernel
theorem dX8_init_57 : decode cX8_init 57 = .ok (.aload_n 0, 1) := by decide +kernel
theorem dX8_init_58 : decode cX8_init 58 = .ok (.getfield 28, 3) := by decide +kernel
theorem dX8_init_61 : decode cX8_init 61 = .ok (.invokespecial 37, 3) := by decide +kernel
theorem dX8_init_64 : decode cX8_init 64 = .ok (.putfield 40, 3) := by decide +kernel
theorem dX8_init_67 : decode cX8_init 67 = .ok (.aload_n 0, 1) := by decide +kernel
theorem dX8_init_68 : decode cX8_init 68 = .ok (.new 44, 3) := by decide +kernel
theorem dX8_init_71 : decode cX8_init 71 = .ok (.dup, 1) := by decide +kernel
theorem dX8_init_72 : decode cX8_init 72 = .ok (.aload_n 0, 1) := by decide +kernel
theorem dX8_init_73 : decode cX8_init 73 = .ok (.getfield 28, 3) := by decide +kernel
theorem dX8_init_76 : decode cX8_init 76 = .ok (.aload_n 0, 1) := by decide +kernel
theorem dX8_init_77 : decode cX8_init 77 = .ok (.getfield 40, 3) := by decide +kernel
theorem dX8_init_80 : decode cX8_init 80 = .ok (.invokespecial 46, 3) := by decide +kernel
theorem dX8_init_83 : decode cX8_init 83 = .ok (.putfield 49, 3) := by decide +kernel
theorem dX8_init_86 : decode cX8_init 86 = .ok (.aload_n 0, 1) := by decide +kernel
theorem dX8_init_87 : decode cX8_init 87 = .ok (.new 53, 3) := by decide +kernel
theorem dX8_init_90 : decode cX8_init 90 = .ok (.dup, 1) := by decide +kernel
theorem dX8_init_91 : decode cX8_init 91 = .ok (.invokespecial 55, 3) := by decide +kernel
theorem dX8_init_94 : decode cX8_init 94 = .ok (.putfield 56, 3) := by decide +kernel
theorem dX8_init_97 : decode cX8_init 97 = .ok (.aload_n 0, 1) := by decide +kernel
theorem dX8_init_98 : decode cX8_init 98 = .ok (.new 60, 3) := by decide +kernel
theorem dX8_init_101 : decode cX8_init 101 = .ok (.dup, 1) := by decide +kernel
theorem dX8_init_102 : decode cX8_init 102 = .ok (.invokespecial 62, 3) := by decide +kernel
theorem dX8_init_105 : decode cX8_init 105 = .ok (.putfield 63, 3) := by decide +kernel
theorem dX8_init_108 : decode cX8_init 108 = .ok (.aload_n 0, 1) := by decide +kernel
theorem dX8_init_109 : decode cX8_init 109 = .ok (.new 60, 3) := by decide +kernel
theorem dX8_init_112 : decode cX8_init 112 = .ok (.dup, 1) := by decide +kernel
theorem dX8_init_113 : decode cX8_init 113 = .ok (.invokespecial 62, 3) := by decide +kernel
theorem dX8_init_116 : decode cX8_init 116 = .ok (.putfield 67, 3) := by decide +kernel
theorem dX8_init_119 : decode cX8_init 119 = .ok (.aload_n 0, 1) := by decide +kernel
theorem dX8_init_120 : decode cX8_init 120 = .ok (.new 70, 3) := by decide +kernel
theorem dX8_init_123 : decode cX8_init 123 = .ok (.dup, 1) := by decide +kernel
theorem dX8_init_124 : decode cX8_init 124 = .ok (.invokespecial 72, 3) := by decide +kernel
theorem dX8_init_127 : decode cX8_init 127 = .ok (.putfield 73, 3) := by decide +kernel
theorem dX8_init_130 : decode cX8_init 130 = .ok (.aload_n 0, 1) := by decide +kernel
theorem dX8_init_131 : decode cX8_init 131 = .ok (.iconst 3, 1) := by decide +kernel
theorem dX8_init_132 : decode cX8_init 132 = .ok (.anewarray 70, 3) := by decide +kernel
theorem dX8_init_135 : decode cX8_init 135 = .ok (.putfield 77, 3) := by decide +kernel
theorem dX8_init_138 : decode cX8_init 138 = .ok (.iconst 0, 1) := by decide +kernel
theorem dX8_init_139 : decode cX8_init 139 = .ok (.istore_n 1, 1) := by decide +kernel
theorem dX8_init_140 : decode cX8_init 140 = .ok (.iload_n 1, 1) := by decide +kernel
theorem dX8_init_141 : decode cX8_init 141 = .ok (.iconst 3, 1) := by decide +kernel
theorem dX8_init_142 : decode cX8_init 142 = .ok (.if_icmp .ge 22, 3) := by decide +kernel
theorem dX8_init_145 : decode cX8_init 145 = .ok (.aload_n 0, 1) := by decide +kernel
theorem dX8_init_146 : decode cX8_init 146 = .ok (.getfield 77, 3) := by decide +kernel
theorem dX8_init_149 : decode cX8_init 149 = .ok (.iload_n 1, 1) := by decide +kernel
theorem dX8_init_150 : decode cX8_init 150 = .ok (.new 70, 3) := by decide +kernel
theorem dX8_init_153 : decode cX8_init 153 = .ok (.dup, 1) := by decide +kernel
theorem dX8_init_154 : decode cX8_init 154 = .ok (.invokespecial 72, 3) := by decide +kernel
theorem dX8_init_157 : decode cX8_init 157 = .ok (.aastore, 1) := by decide +kernel
theorem dX8_init_158 : decode cX8_init 158 = .ok (.iinc 1 1, 3) := by decide +kernel
theorem dX8_init_161 : decode cX8_init 161 = .ok (.goto (-21), 3) := by decide +kernel
theorem dX8_init_164 : decode cX8_init 164 = .ok (.aload_n 0, 1) := by decide +kernel
theorem dX8_init_165 : decode cX8_init 165 = .ok (.iconst 0, 1) := by decide +kernel
theorem dX8_init_166 : decode cX8_init 166 = .ok (.putfield 81, 3) := by decide +kernel
theorem dX8_init_169 : decode cX8_init 169 = .ok (.aload_n 0, 1) := by decide +kernel
theorem dX8_init_170 : decode cX8_init 170 = .ok (.iconst 0, 1) := by decide +kernel
theorem dX8_init_171 : decode cX8_init 171 = .ok (.putfield 85, 3) := by decide +kernel
theorem dX8_init_174 : decode cX8_init 174 = .ok (.return_, 1) := by decide +kernel
theorem dX8_feed_0 : decode cX8_feed 0 = .ok (.aload_n 0, 1) := by decide +kernel
theorem dX8_feed_1 : decode cX8_feed 1 = .ok (.getfield 12, 3) := by decide +kernel
theorem dX8_feed_4 : decode cX8_feed 4 = .ok (.getfield 88, 3) := by decide +kernel
theorem dX8_feed_7 : decode cX8_feed 7 = .ok (.bipush 20, 2) := by decide +kernel
theorem dX8_feed_9 : decode cX8_feed 9 = .ok (.iadd, 1) := by decide +kernel
theorem dX8_feed_10 : decode cX8_feed 10 = .ok (.sipush 900, 3) := by decide +kernel
theorem dX8_feed_13 : decode cX8_feed 13 = .ok (.if_icmp .le 5, 3) := by decide +kernel
theorem dX8_feed_16 : decode cX8_feed 16 = .ok (.iconst (-1), 1) := by decide +kernel
theorem dX8_feed_17 : decode cX8_feed 17 = .ok (.ireturn, 1) := by decide +kernel
theorem dX8_feed_18 : decode cX8_feed 18 = .ok (.aload_n 0, 1) := by decide +kernel
theorem dX8_feed_19 : decode cX8_feed 19 = .ok (.getfield 12, 3) := by decide +kernel
theorem dX8_feed_22 : decode cX8_feed 22 = .ok (.iload_n 1, 1) := by decide +kernel
theorem dX8_feed_23 : decode cX8_feed 23 = .ok (.invokevirtual 91, 3) := by decide +kernel
theorem dX8_feed_26 : decode cX8_feed 26 = .ok (.aload_n 0, 1) := by decide +kernel
theorem dX8_feed_27 : decode cX8_feed 27 = .ok (.getfield 12, 3) := by decide +kernel
theorem dX8_feed_30 : decode cX8_feed 30 = .ok (.iload_n 2, 1) := by decide +kernel
theorem dX8_feed_31 : decode cX8_feed 31 = .ok (.invokevirtual 91, 3) := by decide +kernel
theorem dX8_feed_34 : decode cX8_feed 34 = .ok (.aload_n 0, 1) := by decide +kernel
theorem dX8_feed_35 : decode cX8_feed 35 = .ok (.getfield 12, 3) := by decide +kernel
theorem dX8_feed_38 : decode cX8_feed 38 = .ok (.iload_n 3, 1) := by decide +kernel
theorem dX8_feed_39 : decode cX8_feed 39 = .ok (.invokevirtual 91, 3) := by decide +kernel
theorem dX8_feed_42 : decode cX8_feed 42 = .ok (.aload_n 0, 1) := by decide +kernel
theorem dX8_feed_43 : decode cX8_feed 43 = .ok (.getfield 12, 3) := by decide +kernel
theorem dX8_feed_46 : decode cX8_feed 46 = .ok (.iload 4, 2) := by decide +kernel
theorem dX8_feed_48 : decode cX8_feed 48 = .ok (.invokevirtual 91, 3) := by decide +kernel
theorem dX8_feed_51 : decode cX8_feed 51 = .ok (.aload_n 0, 1) := by decide +kernel
theorem dX8_feed_52 : decode cX8_feed 52 = .ok (.getfield 12, 3) := by decide +kernel
theorem dX8_feed_55 : decode cX8_feed 55 = .ok (.iload 5, 2) := by decide +kernel
theorem dX8_feed_57 : decode cX8_feed 57 = .ok (.invokevirtual 91, 3) := by decide +kernel
theorem dX8_feed_60 : decode cX8_feed 60 = .ok (.aload_n 0, 1) := by decide +kernel
theorem dX8_feed_61 : decode cX8_feed 61 = .ok (.getfield 12, 3) := by decide +kernel
theorem dX8_feed_64 : decode cX8_feed 64 = .ok (.getfield 88, 3) := by decide +kernel
theorem dX8_feed_67 : decode cX8_feed 67 = .ok (.ireturn, 1) := by decide +kernel
theorem dX8_hall_0 : decode cX8_hall 0 = .ok (.iload_n 1, 1) := by decide +kernel
theorem dX8_hall_1 : decode cX8_hall 1 = .ok (.ifCond .lt 14, 3) := by decide +kernel
theorem dX8_hall_4 : decode cX8_hall 4 = .ok (.iload_n 1, 1) := by decide +kernel
theorem dX8_hall_5 : decode cX8_hall 5 = .ok (.aload_n 0, 1) := by decide +kernel
theorem dX8_hall_6 : decode cX8_hall 6 = .ok (.getfield 12, 3) := by decide +kernel
theorem dX8_hall_9 : decode cX8_hall 9 = .ok (.getfield 88, 3) := by decide +kernel
theorem dX8_hall_12 : decode cX8_hall 12 = .ok (.if_icmp .le 9, 3) := by decide +kernel
theorem dX8_hall_15 : decode cX8_hall 15 = .ok (.aload_n 0, 1) := by decide +kernel
theorem dX8_hall_16 : decode cX8_hall 16 = .ok (.iconst 2, 1) := by decide +kernel
theorem dX8_hall_17 : decode cX8_hall 17 = .ok (.invokevirtual 95, 3) := by decide +kernel
theorem dX8_hall_20 : decode cX8_hall 20 = .ok (.ireturn, 1) := by decide +kernel
theorem dX8_hall_21 : decode cX8_hall 21 = .ok (.aload_n 0, 1) := by decide +kernel
theorem dX8_hall_22 : decode cX8_hall 22 = .ok (.getfield 21, 3) := by decide +kernel
theorem dX8_hall_25 : decode cX8_hall 25 = .ok (.aload_n 0, 1) := by decide +kernel
theorem dX8_hall_26 : decode cX8_hall 26 = .ok (.getfield 32, 3) := by decide +kernel
theorem dX8_hall_29 : decode cX8_hall 29 = .ok (.iload_n 1, 1) := by decide +kernel
theorem dX8_hall_30 : decode cX8_hall 30 = .ok (.invokevirtual 99, 3) := by decide +kernel
theorem dX8_hall_33 : decode cX8_hall 33 = .ok (.istore_n 2, 1) := by decide +kernel
theorem dX8_hall_34 : decode cX8_hall 34 = .ok (.aload_n 0, 1) := by decide +kernel
theorem dX8_hall_35 : decode cX8_hall 35 = .ok (.getfield 12, 3) := by decide +kernel
theorem dX8_hall_38 : decode cX8_hall 38 = .ok (.iconst 0, 1) := by decide +kernel
theorem dX8_hall_39 : decode cX8_hall 39 = .ok (.putfield 88, 3) := by decide +kernel
theorem dX8_hall_42 : decode cX8_hall 42 = .ok (.iload_n 2, 1) := by decide +kernel
theorem dX8_hall_43 : decode cX8_hall 43 = .ok (.ifCond .ne 9, 3) := by decide +kernel
theorem dX8_hall_46 : decode cX8_hall 46 = .ok (.aload_n 0, 1) := by decide +kernel
theorem dX8_hall_47 : decode cX8_hall 47 = .ok (.iconst 4, 1) := by decide +kernel
theorem dX8_hall_48 : decode cX8_hall 48 = .ok (.invokevirtual 95, 3) := by decide +kernel
theorem dX8_hall_51 : decode cX8_hall 51 = .ok (.ireturn, 1) := by decide +kernel
theorem dX8_hall_52 : decode cX8_hall 52 = .ok (.aload_n 0, 1) := by decide +kernel
theorem dX8_hall_53 : decode cX8_hall 53 = .ok (.getfield 28, 3) := by decide +kernel
theorem dX8_hall_56 : decode cX8_hall 56 = .ok (.astore_n 3, 1) := by decide +kernel
theorem dX8_hall_57 : decode cX8_hall 57 = .ok (.aload_n 0, 1) := by decide +kernel
theorem dX8_hall_58 : decode cX8_hall 58 = .ok (.aload_n 0, 1) := by decide +kernel
theorem dX8_hall_59 : decode cX8_hall 59 = .ok (.getfield 32, 3) := by decide +kernel
theorem dX8_hall_62 : decode cX8_hall 62 = .ok (.putfield 28, 3) := by decide +kernel
theorem dX8_hall_65 : decode cX8_hall 65 = .ok (.aload_n 0, 1) := by decide +kernel
theorem dX8_hall_66 : decode cX8_hall 66 = .ok (.aload_n 3, 1) := by decide +kernel
theorem dX8_hall_67 : decode cX8_hall 67 = .ok (.putfield 32, 3) := by decide +kernel
theorem dX8_hall_70 : decode cX8_hall 70 = .ok (.aload_n 0, 1) := by decide +kernel
theorem dX8_hall_71 : decode cX8_hall 71 = .ok (.getfield 49, 3) := by decide +kernel
theorem dX8_hall_74 : decode cX8_hall 74 = .ok (.aload_n 0, 1) := by decide +kernel
theorem dX8_hall_75 : decode cX8_hall 75 = .ok (.getfield 28, 3) := by decide +kernel
theorem dX8_hall_78 : decode cX8_hall 78 = .ok (.invokevirtual 103, 3) := by decide +kernel
theorem dX8_hall_81 : decode cX8_hall 81 = .ok (.aload_n 0, 1) := by decide +kernel
theorem dX8_hall_82 : decode cX8_hall 82 = .ok (.getfield 73, 3) := by decide +kernel
theorem dX8_hall_85 : decode cX8_hall 85 = .ok (.iconst 0, 1) := by decide +kernel
theorem dX8_hall_86 : decode cX8_hall 86 = .ok (.iconst 0, 1) := by decide +kernel
theorem dX8_hall_87 : decode cX8_hall 87 = .ok (.invokevirtual 106, 3) := by decide +kernel
theorem dX8_hall_90 : decode cX8_hall 90 = .ok (.aload_n 0, 1) := by decide +kernel
theorem dX8_hall_91 : decode cX8_hall 91 = .ok (.iconst 0, 1) := by decide +kernel
theorem dX8_hall_92 : decode cX8_hall 92 = .ok (.putfield 81, 3) := by decide +kernel
theorem dX8_hall_95 : decode cX8_hall 95 = .ok (.aload_n 0, 1) := by decide +kernel
theorem dX8_hall_96 : decode cX8_hall 96 = .ok (.aload_n 0, 1) := by decide +kernel
theorem dX8_hall_97 : decode cX8_hall 97 = .ok (.getfield 28, 3) := by decide +kernel
theorem dX8_hall_100 : decode cX8_hall 100 = .ok (.getfield 109, 3) := by decide +kernel
theorem dX8_hall_103 : decode cX8_hall 103 = .ok (.invokevirtual 112, 3) := by decide +kernel
theorem dX8_hall_106 : decode cX8_hall 106 = .ok (.ireturn, 1) := by decide +kernel
theorem dX8_fault_0 : decode cX8_fault 0 = .ok (.aload_n 0, 1) := by decide +kernel
theorem dX8_fault_1 : decode cX8_fault 1 = .ok (.getfield 21, 3) := by decide +kernel
theorem dX8_fault_4 : decode cX8_fault 4 = .ok (.getfield 115, 3) := by decide +kernel
theorem dX8_fault_7 : decode cX8_fault 7 = .ok (.ireturn, 1) := by decide +kernel
theorem dX8_where_0 : decode cX8_where 0 = .ok (.aload_n 0, 1) := by decide +kernel
theorem dX8_where_1 : decode cX8_where 1 = .ok (.getfield 85, 3) := by decide +kernel
theorem dX8_where_4 : decode cX8_where 4 = .ok (.iconst 4, 1) := by decide +kernel
theorem dX8_where_5 : decode cX8_where 5 = .ok (.if_icmp .ne 13, 3) := by decide +kernel
theorem dX8_where_8 : decode cX8_where 8 = .ok (.aload_n 0, 1) := by decide +kernel
theorem dX8_where_9 : decode cX8_where 9 = .ok (.getfield 21, 3) := by decide +kernel
theorem dX8_where_12 : decode cX8_where 12 = .ok (.getfield 118, 3) := by decide +kernel
theorem dX8_where_15 : decode cX8_where 15 = .ok (.goto 4, 3) := by decide +kernel
theorem dX8_where_18 : decode cX8_where 18 = .ok (.iconst (-1), 1) := by decide +kernel
theorem dX8_where_19 : decode cX8_where 19 = .ok (.ireturn, 1) := by decide +kernel
theorem dX8_fullest_0 : decode cX8_fullest 0 = .ok (.aload_n 0, 1) := by decide +kernel
theorem dX8_fullest_1 : decode cX8_fullest 1 = .ok (.iload_n 1, 1) := by decide +kernel
theorem dX8_fullest_2 : decode cX8_fullest 2 = .ok (.invokevirtual 121, 3) := by decide +kernel
theorem dX8_fullest_5 : decode cX8_fullest 5 = .ok (.ifCond .ne 10, 3) := by decide +kernel
theorem dX8_fullest_8 : decode cX8_fullest 8 = .ok (.aload_n 0, 1) := by decide +kernel
theorem dX8_fullest_9 : decode cX8_fullest 9 = .ok (.iconst 1, 1) := by decide +kernel
theorem dX8_fullest_10 : decode cX8_fullest 10 = .ok (.invokevirtual 95, 3) := by decide +kernel
theorem dX8_fullest_13 : decode cX8_fullest 13 = .ok (.i2l, 1) := by decide +kernel
theorem dX8_fullest_14 : decode cX8_fullest 14 = .ok (.lreturn, 1) := by decide +kernel
theorem dX8_fullest_15 : decode cX8_fullest 15 = .ok (.aload_n 0, 1) := by decide +kernel
theorem dX8_fullest_16 : decode cX8_fullest 16 = .ok (.iload_n 2, 1) := by decide +kernel
theorem dX8_fullest_17 : decode cX8_fullest 17 = .ok (.invokevirtual 125, 3) := by decide +kernel
theorem dX8_fullest_20 : decode cX8_fullest 20 = .ok (.ifCond .eq 10, 3) := by decide +kernel
theorem dX8_fullest_23 : decode cX8_fullest 23 = .ok (.iload_n 3, 1) := by decide +kernel
theorem dX8_fullest_24 : decode cX8_fullest 24 = .ok (.invokestatic 128, 3) := by decide +kernel
theorem dX8_fullest_27 : decode cX8_fullest 27 = .ok (.ifCond .ne 10, 3) := by decide +kernel
theorem dX8_fullest_30 : decode cX8_fullest 30 = .ok (.aload_n 0, 1) := by decide +kernel
theorem dX8_fullest_31 : decode cX8_fullest 31 = .ok (.iconst 2, 1) := by decide +kernel
theorem dX8_fullest_32 : decode cX8_fullest 32 = .ok (.invokevirtual 95, 3) := by decide +kernel
theorem dX8_fullest_35 : decode cX8_fullest 35 = .ok (.i2l, 1) := by decide +kernel
theorem dX8_fullest_36 : decode cX8_fullest 36 = .ok (.lreturn, 1) := by decide +kernel
theorem dX8_fullest_37 : decode cX8_fullest 37 = .ok (.aload_n 0, 1) := by decide +kernel
theorem dX8_fullest_38 : decode cX8_fullest 38 = .ok (.iload_n 1, 1) := by decide +kernel
theorem dX8_fullest_39 : decode cX8_fullest 39 = .ok (.iload_n 2, 1) := by decide +kernel
theorem dX8_fullest_40 : decode cX8_fullest 40 = .ok (.iconst 4, 1) := by decide +kernel
theorem dX8_fullest_41 : decode cX8_fullest 41 = .ok (.iload_n 3, 1) := by decide +kernel
theorem dX8_fullest_42 : decode cX8_fullest 42 = .ok (.iconst 0, 1) := by decide +kernel
theorem dX8_fullest_43 : decode cX8_fullest 43 = .ok (.iload 4, 2) := by decide +kernel
theorem dX8_fullest_45 : decode cX8_fullest 45 = .ok (.invokevirtual 131, 3) := by decide +kernel
theorem dX8_fullest_48 : decode cX8_fullest 48 = .ok (.lreturn, 1) := by decide +kernel
theorem dX8_empty_0 : decode cX8_empty 0 = .ok (.aload_n 0, 1) := by decide +kernel
theorem dX8_empty_1 : decode cX8_empty 1 = .ok (.iload_n 1, 1) := by decide +kernel
theorem dX8_empty_2 : decode cX8_empty 2 = .ok (.invokevirtual 121, 3) := by decide +kernel
theorem dX8_empty_5 : decode cX8_empty 5 = .ok (.ifCond .ne 10, 3) := by decide +kernel
theorem dX8_empty_8 : decode cX8_empty 8 = .ok (.aload_n 0, 1) := by decide +kernel
theorem dX8_empty_9 : decode cX8_empty 9 = .ok (.iconst 1, 1) := by decide +kernel
theorem dX8_empty_10 : decode cX8_empty 10 = .ok (.invokevirtual 95, 3) := by decide +kernel
theorem dX8_empty_13 : decode cX8_empty 13 = .ok (.i2l, 1) := by decide +kernel
theorem dX8_empty_14 : decode cX8_empty 14 = .ok (.lreturn, 1) := by decide +kernel
theorem dX8_empty_15 : decode cX8_empty 15 = .ok (.aload_n 0, 1) := by decide +kernel
theorem dX8_empty_16 : decode cX8_empty 16 = .ok (.iload_n 2, 1) := by decide +kernel
theorem dX8_empty_17 : decode cX8_empty 17 = .ok (.invokevirtual 125, 3) := by decide +kernel
theorem dX8_empty_20 : decode cX8_empty 20 = .ok (.ifCond .eq 12, 3) := by decide +kernel
theorem dX8_empty_23 : decode cX8_empty 23 = .ok (.iload_n 3, 1) := by decide +kernel
theorem dX8_empty_24 : decode cX8_empty 24 = .ok (.ifCond .lt 8, 3) := by decide +kernel
theorem dX8_empty_27 : decode cX8_empty 27 = .ok (.iload_n 3, 1) := by decide +kernel
theorem dX8_empty_28 : decode cX8_empty 28 = .ok (.iconst 5, 1) := by decide +kernel
theorem dX8_empty_29 : decode cX8_empty 29 = .ok (.if_icmp .le 10, 3) := by decide +kernel
theorem dX8_empty_32 : decode cX8_empty 32 = .ok (.aload_n 0, 1) := by decide +kernel
theorem dX8_empty_33 : decode cX8_empty 33 = .ok (.iconst 2, 1) := by decide +kernel
theorem dX8_empty_34 : decode cX8_empty 34 = .ok (.invokevirtual 95, 3) := by decide +kernel
theorem dX8_empty_37 : decode cX8_empty 37 = .ok (.i2l, 1) := by decide +kernel
theorem dX8_empty_38 : decode cX8_empty 38 = .ok (.lreturn, 1) := by decide +kernel
theorem dX8_empty_39 : decode cX8_empty 39 = .ok (.aload_n 0, 1) := by decide +kernel
theorem dX8_empty_40 : decode cX8_empty 40 = .ok (.iload_n 1, 1) := by decide +kernel
theorem dX8_empty_41 : decode cX8_empty 41 = .ok (.iload_n 2, 1) := by decide +kernel
theorem dX8_empty_42 : decode cX8_empty 42 = .ok (.iconst 5, 1) := by decide +kernel
theorem dX8_empty_43 : decode cX8_empty 43 = .ok (.iload_n 3, 1) := by decide +kernel
theorem dX8_empty_44 : decode cX8_empty 44 = .ok (.iconst 0, 1) := by decide +kernel
theorem dX8_empty_45 : decode cX8_empty 45 = .ok (.iload 4, 2) := by decide +kernel
theorem dX8_empty_47 : decode cX8_empty 47 = .ok (.invokevirtual 131, 3) := by decide +kernel
theorem dX8_empty_50 : decode cX8_empty 50 = .ok (.lreturn, 1) := by decide +kernel
theorem dX8_holds_0 : decode cX8_holds 0 = .ok (.aload_n 0, 1) := by decide +kernel
theorem dX8_holds_1 : decode cX8_holds 1 = .ok (.iload_n 1, 1) := by decide +kernel
theorem dX8_holds_2 : decode cX8_holds 2 = .ok (.invokevirtual 121, 3) := by decide +kernel
theorem dX8_holds_5 : decode cX8_holds 5 = .ok (.ifCond .eq 11, 3) := by decide +kernel
theorem dX8_holds_8 : decode cX8_holds 8 = .ok (.aload_n 0, 1) := by decide +kernel
theorem dX8_holds_9 : decode cX8_holds 9 = .ok (.iload_n 3, 1) := by decide +kernel
theorem dX8_holds_10 : decode cX8_holds 10 = .ok (.invokevirtual 135, 3) := by decide +kernel
theorem dX8_holds_13 : decode cX8_holds 13 = .ok (.ifCond .ne 10, 3) := by decide +kernel
theorem dX8_holds_16 : decode cX8_holds 16 = .ok (.aload_n 0, 1) := by decide +kernel
theorem dX8_holds_17 : decode cX8_holds 17 = .ok (.iconst 1, 1) := by decide +kernel
theorem dX8_holds_18 : decode cX8_holds 18 = .ok (.invokevirtual 95, 3) := by decide +kernel
theorem dX8_holds_21 : decode cX8_holds 21 = .ok (.i2l, 1) := by decide +kernel
theorem dX8_holds_22 : decode cX8_holds 22 = .ok (.lreturn, 1) := by decide +kernel
theorem dX8_holds_23 : decode cX8_holds 23 = .ok (.aload_n 0, 1) := by decide +kernel
theorem dX8_holds_24 : decode cX8_holds 24 = .ok (.iload_n 2, 1) := by decide +kernel
theorem dX8_holds_25 : decode cX8_holds 25 = .ok (.invokevirtual 125, 3) := by decide +kernel
theorem dX8_holds_28 : decode cX8_holds 28 = .ok (.ifCond .eq 15, 3) := by decide +kernel
theorem dX8_holds_31 : decode cX8_holds 31 = .ok (.iload 4, 2) := by decide +kernel
theorem dX8_holds_33 : decode cX8_holds 33 = .ok (.ifCond .lt 10, 3) := by decide +kernel
theorem dX8_holds_36 : decode cX8_holds 36 = .ok (.iload 4, 2) := by decide +kernel
theorem dX8_holds_38 : decode cX8_holds 38 = .ok (.bipush 8, 2) := by decide +kernel
theorem dX8_holds_40 : decode cX8_holds 40 = .ok (.if_icmp .le 10, 3) := by decide +kernel
theorem dX8_holds_43 : decode cX8_holds 43 = .ok (.aload_n 0, 1) := by decide +kernel
theorem dX8_holds_44 : decode cX8_holds 44 = .ok (.iconst 2, 1) := by decide +kernel
theorem dX8_holds_45 : decode cX8_holds 45 = .ok (.invokevirtual 95, 3) := by decide +kernel
theorem dX8_holds_48 : decode cX8_holds 48 = .ok (.i2l, 1) := by decide +kernel
theorem dX8_holds_49 : decode cX8_holds 49 = .ok (.lreturn, 1) := by decide +kernel
theorem dX8_holds_50 : decode cX8_holds 50 = .ok (.aload_n 0, 1) := by decide +kernel
theorem dX8_holds_51 : decode cX8_holds 51 = .ok (.iload_n 1, 1) := by decide +kernel
theorem dX8_holds_52 : decode cX8_holds 52 = .ok (.iload_n 2, 1) := by decide +kernel
theorem dX8_holds_53 : decode cX8_holds 53 = .ok (.bipush 6, 2) := by decide +kernel
theorem dX8_holds_55 : decode cX8_holds 55 = .ok (.iload_n 3, 1) := by decide +kernel
theorem dX8_holds_56 : decode cX8_holds 56 = .ok (.iload 4, 2) := by decide +kernel
theorem dX8_holds_58 : decode cX8_holds 58 = .ok (.iload 5, 2) := by decide +kernel
theorem dX8_holds_60 : decode cX8_holds 60 = .ok (.invokevirtual 131, 3) := by decide +kernel
theorem dX8_holds_63 : decode cX8_holds 63 = .ok (.lreturn, 1) := by decide +kernel
theorem dX8_mean_0 : decode cX8_mean 0 = .ok (.aload_n 0, 1) := by decide +kernel
theorem dX8_mean_1 : decode cX8_mean 1 = .ok (.iload_n 1, 1) := by decide +kernel
theorem dX8_mean_2 : decode cX8_mean 2 = .ok (.invokevirtual 121, 3) := by decide +kernel
theorem dX8_mean_5 : decode cX8_mean 5 = .ok (.ifCond .eq 12, 3) := by decide +kernel
theorem dX8_mean_8 : decode cX8_mean 8 = .ok (.iload_n 3, 1) := by decide +kernel
theorem dX8_mean_9 : decode cX8_mean 9 = .ok (.ifCond .lt 8, 3) := by decide +kernel
theorem dX8_mean_12 : decode cX8_mean 12 = .ok (.iload_n 3, 1) := by decide +kernel
theorem dX8_mean_13 : decode cX8_mean 13 = .ok (.iconst 3, 1) := by decide +kernel
theorem dX8_mean_14 : decode cX8_mean 14 = .ok (.if_icmp .le 10, 3) := by decide +kernel
theorem dX8_mean_17 : decode cX8_mean 17 = .ok (.aload_n 0, 1) := by decide +kernel
theorem dX8_mean_18 : decode cX8_mean 18 = .ok (.iconst 1, 1) := by decide +kernel
theorem dX8_mean_19 : decode cX8_mean 19 = .ok (.invokevirtual 95, 3) := by decide +kernel
theorem dX8_mean_22 : decode cX8_mean 22 = .ok (.i2l, 1) := by decide +kernel
theorem dX8_mean_23 : decode cX8_mean 23 = .ok (.lreturn, 1) := by decide +kernel
theorem dX8_mean_24 : decode cX8_mean 24 = .ok (.aload_n 0, 1) := by decide +kernel
theorem dX8_mean_25 : decode cX8_mean 25 = .ok (.iload_n 2, 1) := by decide +kernel
theorem dX8_mean_26 : decode cX8_mean 26 = .ok (.invokevirtual 125, 3) := by decide +kernel
theorem dX8_mean_29 : decode cX8_mean 29 = .ok (.ifCond .ne 10, 3) := by decide +kernel
theorem dX8_mean_32 : decode cX8_mean 32 = .ok (.aload_n 0, 1) := by decide +kernel
theorem dX8_mean_33 : decode cX8_mean 33 = .ok (.iconst 2, 1) := by decide +kernel
theorem dX8_mean_34 : decode cX8_mean 34 = .ok (.invokevirtual 95, 3) := by decide +kernel
theorem dX8_mean_37 : decode cX8_mean 37 = .ok (.i2l, 1) := by decide +kernel
theorem dX8_mean_38 : decode cX8_mean 38 = .ok (.lreturn, 1) := by decide +kernel
theorem dX8_mean_39 : decode cX8_mean 39 = .ok (.aload_n 0, 1) := by decide +kernel
theorem dX8_mean_40 : decode cX8_mean 40 = .ok (.iload_n 1, 1) := by decide +kernel
theorem dX8_mean_41 : decode cX8_mean 41 = .ok (.iload_n 2, 1) := by decide +kernel
theorem dX8_mean_42 : decode cX8_mean 42 = .ok (.iload_n 3, 1) := by decide +kernel
theorem dX8_mean_43 : decode cX8_mean 43 = .ok (.iload_n 2, 1) := by decide +kernel
theorem dX8_mean_44 : decode cX8_mean 44 = .ok (.iconst 0, 1) := by decide +kernel
theorem dX8_mean_45 : decode cX8_mean 45 = .ok (.iload 4, 2) := by decide +kernel
theorem dX8_mean_47 : decode cX8_mean 47 = .ok (.invokevirtual 131, 3) := by decide +kernel
theorem dX8_mean_50 : decode cX8_mean 50 = .ok (.lreturn, 1) := by decide +kernel
theorem dX8_states_0 : decode cX8_states 0 = .ok (.aload_n 0, 1) := by decide +kernel
theorem dX8_states_1 : decode cX8_states 1 = .ok (.iload_n 1, 1) := by decide +kernel
theorem dX8_states_2 : decode cX8_states 2 = .ok (.iload_n 2, 1) := by decide +kernel
theorem dX8_states_3 : decode cX8_states 3 = .ok (.invokevirtual 138, 3) := by decide +kernel
theorem dX8_states_6 : decode cX8_states 6 = .ok (.ifCond .eq 5, 3) := by decide +kernel
theorem dX8_states_9 : decode cX8_states 9 = .ok (.iconst (-1), 1) := by decide +kernel
theorem dX8_states_10 : decode cX8_states 10 = .ok (.ireturn, 1) := by decide +kernel
theorem dX8_states_11 : decode cX8_states 11 = .ok (.aload_n 0, 1) := by decide +kernel
theorem dX8_states_12 : decode cX8_states 12 = .ok (.aload_n 0, 1) := by decide +kernel
theorem dX8_states_13 : decode cX8_states 13 = .ok (.getfield 49, 3) := by decide +kernel
theorem dX8_states_16 : decode cX8_states 16 = .ok (.aload_n 0, 1) := by decide +kernel
theorem dX8_states_17 : decode cX8_states 17 = .ok (.iload_n 1, 1) := by decide +kernel
theorem dX8_states_18 : decode cX8_states 18 = .ok (.invokevirtual 142, 3) := by decide +kernel
theorem dX8_states_21 : decode cX8_states 21 = .ok (.iload_n 2, 1) := by decide +kernel
theorem dX8_states_22 : decode cX8_states 22 = .ok (.invokevirtual 146, 3) := by decide +kernel
theorem dX8_states_25 : decode cX8_states 25 = .ok (.invokevirtual 112, 3) := by decide +kernel
theorem dX8_states_28 : decode cX8_states 28 = .ok (.ireturn, 1) := by decide +kernel
theorem dX8_worst_0 : decode cX8_worst 0 = .ok (.aload_n 0, 1) := by decide +kernel
theorem dX8_worst_1 : decode cX8_worst 1 = .ok (.iload_n 1, 1) := by decide +kernel
theorem dX8_worst_2 : decode cX8_worst 2 = .ok (.iload_n 2, 1) := by decide +kernel
theorem dX8_worst_3 : decode cX8_worst 3 = .ok (.invokevirtual 138, 3) := by decide +kernel
theorem dX8_worst_6 : decode cX8_worst 6 = .ok (.ifCond .eq 5, 3) := by decide +kernel
theorem dX8_worst_9 : decode cX8_worst 9 = .ok (.iconst (-1), 1) := by decide +kernel
theorem dX8_worst_10 : decode cX8_worst 10 = .ok (.ireturn, 1) := by decide +kernel
theorem dX8_worst_11 : decode cX8_worst 11 = .ok (.aload_n 0, 1) := by decide +kernel
theorem dX8_worst_12 : decode cX8_worst 12 = .ok (.aload_n 0, 1) := by decide +kernel
theorem dX8_worst_13 : decode cX8_worst 13 = .ok (.getfield 49, 3) := by decide +kernel
theorem dX8_worst_16 : decode cX8_worst 16 = .ok (.aload_n 0, 1) := by decide +kernel
theorem dX8_worst_17 : decode cX8_worst 17 = .ok (.iload_n 1, 1) := by decide +kernel
theorem dX8_worst_18 : decode cX8_worst 18 = .ok (.invokevirtual 142, 3) := by decide +kernel
theorem dX8_worst_21 : decode cX8_worst 21 = .ok (.iload_n 2, 1) := by decide +kernel
theorem dX8_worst_22 : decode cX8_worst 22 = .ok (.iload_n 3, 1) := by decide +kernel
theorem dX8_worst_23 : decode cX8_worst 23 = .ok (.invokevirtual 150, 3) := by decide +kernel
theorem dX8_worst_26 : decode cX8_worst 26 = .ok (.invokevirtual 112, 3) := by decide +kernel
theorem dX8_worst_29 : decode cX8_worst 29 = .ok (.ireturn, 1) := by decide +kernel
theorem dX8_lies_0 : decode cX8_lies 0 = .ok (.aload_n 0, 1) := by decide +kernel
theorem dX8_lies_1 : decode cX8_lies 1 = .ok (.iload_n 1, 1) := by decide +kernel
theorem dX8_lies_2 : decode cX8_lies 2 = .ok (.invokevirtual 121, 3) := by decide +kernel
theorem dX8_lies_5 : decode cX8_lies 5 = .ok (.ifCond .eq 18, 3) := by decide +kernel
theorem dX8_lies_8 : decode cX8_lies 8 = .ok (.iload_n 2, 1) := by decide +kernel
theorem dX8_lies_9 : decode cX8_lies 9 = .ok (.ifCond .lt 14, 3) := by decide +kernel
theorem dX8_lies_12 : decode cX8_lies 12 = .ok (.iload_n 2, 1) := by decide +kernel
theorem dX8_lies_13 : decode cX8_lies 13 = .ok (.aload_n 0, 1) := by decide +kernel
theorem dX8_lies_14 : decode cX8_lies 14 = .ok (.getfield 28, 3) := by decide +kernel
theorem dX8_lies_17 : decode cX8_lies 17 = .ok (.getfield 154, 3) := by decide +kernel
theorem dX8_lies_20 : decode cX8_lies 20 = .ok (.if_icmp .lt 10, 3) := by decide +kernel
theorem dX8_lies_23 : decode cX8_lies 23 = .ok (.aload_n 0, 1) := by decide +kernel
theorem dX8_lies_24 : decode cX8_lies 24 = .ok (.iconst 1, 1) := by decide +kernel
theorem dX8_lies_25 : decode cX8_lies 25 = .ok (.invokevirtual 95, 3) := by decide +kernel
theorem dX8_lies_28 : decode cX8_lies 28 = .ok (.i2l, 1) := by decide +kernel
theorem dX8_lies_29 : decode cX8_lies 29 = .ok (.lreturn, 1) := by decide +kernel
theorem dX8_lies_30 : decode cX8_lies 30 = .ok (.aload_n 0, 1) := by decide +kernel
theorem dX8_lies_31 : decode cX8_lies 31 = .ok (.iload_n 1, 1) := by decide +kernel
theorem dX8_lies_32 : decode cX8_lies 32 = .ok (.aload_n 0, 1) := by decide +kernel
theorem dX8_lies_33 : decode cX8_lies 33 = .ok (.getfield 28, 3) := by decide +kernel
theorem dX8_lies_36 : decode cX8_lies 36 = .ok (.getfield 157, 3) := by decide +kernel
theorem dX8_lies_39 : decode cX8_lies 39 = .ok (.bipush 7, 2) := by decide +kernel
theorem dX8_lies_41 : decode cX8_lies 41 = .ok (.aload_n 0, 1) := by decide +kernel
theorem dX8_lies_42 : decode cX8_lies 42 = .ok (.getfield 28, 3) := by decide +kernel
theorem dX8_lies_45 : decode cX8_lies 45 = .ok (.getfield 160, 3) := by decide +kernel
theorem dX8_lies_48 : decode cX8_lies 48 = .ok (.iload_n 2, 1) := by decide +kernel
theorem dX8_lies_49 : decode cX8_lies 49 = .ok (.aaload, 1) := by decide +kernel
theorem dX8_lies_50 : decode cX8_lies 50 = .ok (.invokestatic 164, 3) := by decide +kernel
theorem dX8_lies_53 : decode cX8_lies 53 = .ok (.iconst 0, 1) := by decide +kernel
theorem dX8_lies_54 : decode cX8_lies 54 = .ok (.iload_n 3, 1) := by decide +kernel
theorem dX8_lies_55 : decode cX8_lies 55 = .ok (.invokevirtual 131, 3) := by decide +kernel
theorem dX8_lies_58 : decode cX8_lies 58 = .ok (.lreturn, 1) := by decide +kernel
theorem dX8_compare_0 : decode cX8_compare 0 = .ok (.aload_n 0, 1) := by decide +kernel
theorem dX8_compare_1 : decode cX8_compare 1 = .ok (.iload_n 1, 1) := by decide +kernel
theorem dX8_compare_2 : decode cX8_compare 2 = .ok (.invokevirtual 121, 3) := by decide +kernel
theorem dX8_compare_5 : decode cX8_compare 5 = .ok (.ifCond .eq 11, 3) := by decide +kernel
theorem dX8_compare_8 : decode cX8_compare 8 = .ok (.aload_n 0, 1) := by decide +kernel
theorem dX8_compare_9 : decode cX8_compare 9 = .ok (.iload_n 2, 1) := by decide +kernel
theorem dX8_compare_10 : decode cX8_compare 10 = .ok (.invokevirtual 121, 3) := by decide +kernel
theorem dX8_compare_13 : decode cX8_compare 13 = .ok (.ifCond .ne 9, 3) := by decide +kernel
theorem dX8_compare_16 : decode cX8_compare 16 = .ok (.aload_n 0, 1) := by decide +kernel
theorem dX8_compare_17 : decode cX8_compare 17 = .ok (.iconst 1, 1) := by decide +kernel
theorem dX8_compare_18 : decode cX8_compare 18 = .ok (.invokevirtual 95, 3) := by decide +kernel
theorem dX8_compare_21 : decode cX8_compare 21 = .ok (.ireturn, 1) := by decide +kernel
theorem dX8_compare_22 : decode cX8_compare 22 = .ok (.aload_n 0, 1) := by decide +kernel
theorem dX8_compare_23 : decode cX8_compare 23 = .ok (.iload_n 3, 1) := by decide +kernel
theorem dX8_compare_24 : decode cX8_compare 24 = .ok (.invokevirtual 125, 3) := by decide +kernel
theorem dX8_compare_27 : decode cX8_compare 27 = .ok (.ifCond .eq 11, 3) := by decide +kernel
theorem dX8_compare_30 : decode cX8_compare 30 = .ok (.iload 4, 2) := by decide +kernel
theorem dX8_compare_32 : decode cX8_compare 32 = .ok (.invokestatic 128, 3) := by decide +kernel
theorem dX8_compare_35 : decode cX8_compare 35 = .ok (.ifCond .ne 9, 3) := by decide +kernel
theorem dX8_compare_38 : decode cX8_compare 38 = .ok (.aload_n 0, 1) := by decide +kernel
theorem dX8_compare_39 : decode cX8_compare 39 = .ok (.iconst 2, 1) := by decide +kernel
theorem dX8_compare_40 : decode cX8_compare 40 = .ok (.invokevirtual 95, 3) := by decide +kernel
theorem dX8_compare_43 : decode cX8_compare 43 = .ok (.ireturn, 1) := by decide +kernel
theorem dX8_compare_44 : decode cX8_compare 44 = .ok (.aload_n 0, 1) := by decide +kernel
theorem dX8_compare_45 : decode cX8_compare 45 = .ok (.iload_n 1, 1) := by decide +kernel
theorem dX8_compare_46 : decode cX8_compare 46 = .ok (.iload_n 3, 1) := by decide +kernel
theorem dX8_compare_47 : decode cX8_compare 47 = .ok (.invokevirtual 168, 3) := by decide +kernel
theorem dX8_compare_50 : decode cX8_compare 50 = .ok (.ifCond .ne 12, 3) := by decide +kernel
theorem dX8_compare_53 : decode cX8_compare 53 = .ok (.aload_n 0, 1) := by decide +kernel
theorem dX8_compare_54 : decode cX8_compare 54 = .ok (.iload_n 2, 1) := by decide +kernel
theorem dX8_compare_55 : decode cX8_compare 55 = .ok (.iload_n 3, 1) := by decide +kernel
theorem dX8_compare_56 : decode cX8_compare 56 = .ok (.invokevirtual 168, 3) := by decide +kernel
theorem dX8_compare_59 : decode cX8_compare 59 = .ok (.ifCond .eq 9, 3) := by decide +kernel
theorem dX8_compare_62 : decode cX8_compare 62 = .ok (.aload_n 0, 1) := by decide +kernel
theorem dX8_compare_63 : decode cX8_compare 63 = .ok (.iconst 3, 1) := by decide +kernel
theorem dX8_compare_64 : decode cX8_compare 64 = .ok (.invokevirtual 95, 3) := by decide +kernel
theorem dX8_compare_67 : decode cX8_compare 67 = .ok (.ireturn, 1) := by decide +kernel
theorem dX8_compare_68 : decode cX8_compare 68 = .ok (.aload_n 0, 1) := by decide +kernel
theorem dX8_compare_69 : decode cX8_compare 69 = .ok (.getfield 49, 3) := by decide +kernel
theorem dX8_compare_72 : decode cX8_compare 72 = .ok (.aload_n 0, 1) := by decide +kernel
theorem dX8_compare_73 : decode cX8_compare 73 = .ok (.iload_n 1, 1) := by decide +kernel
theorem dX8_compare_74 : decode cX8_compare 74 = .ok (.invokevirtual 142, 3) := by decide +kernel
theorem dX8_compare_77 : decode cX8_compare 77 = .ok (.iload_n 3, 1) := by decide +kernel
theorem dX8_compare_78 : decode cX8_compare 78 = .ok (.iconst 4, 1) := by decide +kernel
theorem dX8_compare_79 : decode cX8_compare 79 = .ok (.iload 4, 2) := by decide +kernel
theorem dX8_compare_81 : decode cX8_compare 81 = .ok (.iconst 0, 1) := by decide +kernel
theorem dX8_compare_82 : decode cX8_compare 82 = .ok (.invokevirtual 171, 3) := by decide +kernel
theorem dX8_compare_85 : decode cX8_compare 85 = .ok (.aload_n 0, 1) := by decide +kernel
theorem dX8_compare_86 : decode cX8_compare 86 = .ok (.getfield 49, 3) := by decide +kernel
theorem dX8_compare_89 : decode cX8_compare 89 = .ok (.getfield 175, 3) := by decide +kernel
theorem dX8_compare_92 : decode cX8_compare 92 = .ok (.lstore 5, 2) := by decide +kernel
theorem dX8_compare_94 : decode cX8_compare 94 = .ok (.aload_n 0, 1) := by decide +kernel
theorem dX8_compare_95 : decode cX8_compare 95 = .ok (.getfield 49, 3) := by decide +kernel
theorem dX8_compare_98 : decode cX8_compare 98 = .ok (.getfield 179, 3) := by decide +kernel
theorem dX8_compare_101 : decode cX8_compare 101 = .ok (.lstore 7, 2) := by decide +kernel
theorem dX8_compare_103 : decode cX8_compare 103 = .ok (.aload_n 0, 1) := by decide +kernel
theorem dX8_compare_104 : decode cX8_compare 104 = .ok (.getfield 49, 3) := by decide +kernel
theorem dX8_compare_107 : decode cX8_compare 107 = .ok (.aload_n 0, 1) := by decide +kernel
theorem dX8_compare_108 : decode cX8_compare 108 = .ok (.iload_n 2, 1) := by decide +kernel
theorem dX8_compare_109 : decode cX8_compare 109 = .ok (.invokevirtual 142, 3) := by decide +kernel
theorem dX8_compare_112 : decode cX8_compare 112 = .ok (.iload_n 3, 1) := by decide +kernel
theorem dX8_compare_113 : decode cX8_compare 113 = .ok (.iconst 4, 1) := by decide +kernel
theorem dX8_compare_114 : decode cX8_compare 114 = .ok (.iload 4, 2) := by decide +kernel
theorem dX8_compare_116 : decode cX8_compare 116 = .ok (.iconst 0, 1) := by decide +kernel
theorem dX8_compare_117 : decode cX8_compare 117 = .ok (.invokevirtual 171, 3) := by decide +kernel
theorem dX8_compare_120 : decode cX8_compare 120 = .ok (.lload 5, 2) := by decide +kernel
theorem dX8_compare_122 : decode cX8_compare 122 = .ok (.lload 7, 2) := by decide +kernel
theorem dX8_compare_124 : decode cX8_compare 124 = .ok (.aload_n 0, 1) := by decide +kernel
theorem dX8_compare_125 : decode cX8_compare 125 = .ok (.getfield 49, 3) := by decide +kernel
theorem dX8_compare_128 : decode cX8_compare 128 = .ok (.getfield 179, 3) := by decide +kernel
theorem dX8_compare_131 : decode cX8_compare 131 = .ok (.invokestatic 182, 3) := by decide +kernel
theorem dX8_compare_134 : decode cX8_compare 134 = .ok (.lmul, 1) := by decide +kernel
theorem dX8_compare_135 : decode cX8_compare 135 = .ok (.lstore 5, 2) := by decide +kernel
theorem dX8_compare_137 : decode cX8_compare 137 = .ok (.aload_n 0, 1) := by decide +kernel
theorem dX8_compare_138 : decode cX8_compare 138 = .ok (.getfield 49, 3) := by decide +kernel
theorem dX8_compare_141 : decode cX8_compare 141 = .ok (.getfield 175, 3) := by decide +kernel
theorem dX8_compare_144 : decode cX8_compare 144 = .ok (.aload_n 0, 1) := by decide +kernel
theorem dX8_compare_145 : decode cX8_compare 145 = .ok (.getfield 49, 3) := by decide +kernel
theorem dX8_compare_148 : decode cX8_compare 148 = .ok (.getfield 179, 3) := by decide +kernel
theorem dX8_compare_151 : decode cX8_compare 151 = .ok (.lload 7, 2) := by decide +kernel
theorem dX8_compare_153 : decode cX8_compare 153 = .ok (.invokestatic 182, 3) := by decide +kernel
theorem dX8_compare_156 : decode cX8_compare 156 = .ok (.lmul, 1) := by decide +kernel
theorem dX8_compare_157 : decode cX8_compare 157 = .ok (.lstore 9, 2) := by decide +kernel
theorem dX8_compare_159 : decode cX8_compare 159 = .ok (.aload_n 0, 1) := by decide +kernel
theorem dX8_compare_160 : decode cX8_compare 160 = .ok (.lload 5, 2) := by decide +kernel
theorem dX8_compare_162 : decode cX8_compare 162 = .ok (.lload 9, 2) := by decide +kernel
theorem dX8_compare_164 : decode cX8_compare 164 = .ok (.lcmp, 1) := by decide +kernel
theorem dX8_compare_165 : decode cX8_compare 165 = .ok (.ifCond .ge 8, 3) := by decide +kernel
theorem dX8_compare_168 : decode cX8_compare 168 = .ok (.bipush (-2), 2) := by decide +kernel
theorem dX8_compare_170 : decode cX8_compare 170 = .ok (.goto 16, 3) := by decide +kernel
theorem dX8_compare_173 : decode cX8_compare 173 = .ok (.lload 5, 2) := by decide +kernel
theorem dX8_compare_175 : decode cX8_compare 175 = .ok (.lload 9, 2) := by decide +kernel
theorem dX8_compare_177 : decode cX8_compare 177 = .ok (.lcmp, 1) := by decide +kernel
theorem dX8_compare_178 : decode cX8_compare 178 = .ok (.ifCond .le 7, 3) := by decide +kernel
theorem dX8_compare_181 : decode cX8_compare 181 = .ok (.iconst 2, 1) := by decide +kernel
theorem dX8_compare_182 : decode cX8_compare 182 = .ok (.goto 4, 3) := by decide +kernel
theorem dX8_compare_185 : decode cX8_compare 185 = .ok (.iconst 0, 1) := by decide +kernel
theorem dX8_compare_186 : decode cX8_compare 186 = .ok (.invokevirtual 112, 3) := by decide +kernel
theorem dX8_compare_189 : decode cX8_compare 189 = .ok (.ireturn, 1) := by decide +kernel
theorem dX8_never_0 : decode cX8_never 0 = .ok (.aload_n 0, 1) := by decide +kernel
theorem dX8_never_1 : decode cX8_never 1 = .ok (.getfield 28, 3) := by decide +kernel
theorem dX8_never_4 : decode cX8_never 4 = .ok (.getfield 186, 3) := by decide +kernel
theorem dX8_never_7 : decode cX8_never 7 = .ok (.ifCond .ne 9, 3) := by decide +kernel
theorem dX8_never_10 : decode cX8_never 10 = .ok (.aload_n 0, 1) := by decide +kernel
theorem dX8_never_11 : decode cX8_never 11 = .ok (.iconst 1, 1) := by decide +kernel
theorem dX8_never_12 : decode cX8_never 12 = .ok (.invokevirtual 95, 3) := by decide +kernel
theorem dX8_never_15 : decode cX8_never 15 = .ok (.ireturn, 1) := by decide +kernel
theorem dX8_never_16 : decode cX8_never 16 = .ok (.aload_n 0, 1) := by decide +kernel
theorem dX8_never_17 : decode cX8_never 17 = .ok (.iload_n 1, 1) := by decide +kernel
theorem dX8_never_18 : decode cX8_never 18 = .ok (.invokevirtual 125, 3) := by decide +kernel
theorem dX8_never_21 : decode cX8_never 21 = .ok (.ifCond .eq 14, 3) := by decide +kernel
theorem dX8_never_24 : decode cX8_never 24 = .ok (.iload_n 2, 1) := by decide +kernel
theorem dX8_never_25 : decode cX8_never 25 = .ok (.iconst 1, 1) := by decide +kernel
theorem dX8_never_26 : decode cX8_never 26 = .ok (.if_icmp .lt 9, 3) := by decide +kernel
theorem dX8_never_29 : decode cX8_never 29 = .ok (.iload_n 2, 1) := by decide +kernel
theorem dX8_never_30 : decode cX8_never 30 = .ok (.bipush 9, 2) := by decide +kernel
theorem dX8_never_32 : decode cX8_never 32 = .ok (.if_icmp .le 9, 3) := by decide +kernel
theorem dX8_never_35 : decode cX8_never 35 = .ok (.aload_n 0, 1) := by decide +kernel
theorem dX8_never_36 : decode cX8_never 36 = .ok (.iconst 2, 1) := by decide +kernel
theorem dX8_never_37 : decode cX8_never 37 = .ok (.invokevirtual 95, 3) := by decide +kernel
theorem dX8_never_40 : decode cX8_never 40 = .ok (.ireturn, 1) := by decide +kernel
theorem dX8_never_41 : decode cX8_never 41 = .ok (.iconst 1, 1) := by decide +kernel
theorem dX8_never_42 : decode cX8_never 42 = .ok (.istore_n 3, 1) := by decide +kernel
theorem dX8_never_43 : decode cX8_never 43 = .ok (.iload_n 3, 1) := by decide +kernel
theorem dX8_never_44 : decode cX8_never 44 = .ok (.iconst 3, 1) := by decide +kernel
theorem dX8_never_45 : decode cX8_never 45 = .ok (.if_icmp .gt 61, 3) := by decide +kernel
theorem dX8_never_48 : decode cX8_never 48 = .ok (.aload_n 0, 1) := by decide +kernel
theorem dX8_never_49 : decode cX8_never 49 = .ok (.getfield 56, 3) := by decide +kernel
theorem dX8_never_52 : decode cX8_never 52 = .ok (.iload_n 3, 1) := by decide +kernel
theorem dX8_never_53 : decode cX8_never 53 = .ok (.iconst 1, 1) := by decide +kernel
theorem dX8_never_54 : decode cX8_never 54 = .ok (.bipush (-2), 2) := by decide +kernel
theorem dX8_never_56 : decode cX8_never 56 = .ok (.invokevirtual 190, 3) := by decide +kernel
theorem dX8_never_59 : decode cX8_never 59 = .ok (.aload_n 0, 1) := by decide +kernel
theorem dX8_never_60 : decode cX8_never 60 = .ok (.getfield 49, 3) := by decide +kernel
theorem dX8_never_63 : decode cX8_never 63 = .ok (.bipush 33, 2) := by decide +kernel
theorem dX8_never_65 : decode cX8_never 65 = .ok (.iload_n 3, 1) := by decide +kernel
theorem dX8_never_66 : decode cX8_never 66 = .ok (.iadd, 1) := by decide +kernel
theorem dX8_never_67 : decode cX8_never 67 = .ok (.iconst 1, 1) := by decide +kernel
theorem dX8_never_68 : decode cX8_never 68 = .ok (.isub, 1) := by decide +kernel
theorem dX8_never_69 : decode cX8_never 69 = .ok (.aload_n 0, 1) := by decide +kernel
theorem dX8_never_70 : decode cX8_never 70 = .ok (.getfield 56, 3) := by decide +kernel
theorem dX8_never_73 : decode cX8_never 73 = .ok (.iconst 1, 1) := by decide +kernel
theorem dX8_never_74 : decode cX8_never 74 = .ok (.invokevirtual 194, 3) := by decide +kernel
theorem dX8_never_77 : decode cX8_never 77 = .ok (.astore 4, 2) := by decide +kernel
theorem dX8_never_79 : decode cX8_never 79 = .ok (.aload_n 0, 1) := by decide +kernel
theorem dX8_never_80 : decode cX8_never 80 = .ok (.getfield 49, 3) := by decide +kernel
theorem dX8_never_83 : decode cX8_never 83 = .ok (.aload 4, 2) := by decide +kernel
theorem dX8_never_85 : decode cX8_never 85 = .ok (.iload_n 1, 1) := by decide +kernel
theorem dX8_never_86 : decode cX8_never 86 = .ok (.iconst 0, 1) := by decide +kernel
theorem dX8_never_87 : decode cX8_never 87 = .ok (.invokevirtual 150, 3) := by decide +kernel
theorem dX8_never_90 : decode cX8_never 90 = .ok (.iload_n 2, 1) := by decide +kernel
theorem dX8_never_91 : decode cX8_never 91 = .ok (.if_icmp .ge 9, 3) := by decide +kernel
theorem dX8_never_94 : decode cX8_never 94 = .ok (.aload_n 0, 1) := by decide +kernel
theorem dX8_never_95 : decode cX8_never 95 = .ok (.iload_n 3, 1) := by decide +kernel
theorem dX8_never_96 : decode cX8_never 96 = .ok (.invokevirtual 112, 3) := by decide +kernel
theorem dX8_never_99 : decode cX8_never 99 = .ok (.ireturn, 1) := by decide +kernel
theorem dX8_never_100 : decode cX8_never 100 = .ok (.iinc 3 1, 3) := by decide +kernel
theorem dX8_never_103 : decode cX8_never 103 = .ok (.goto (-60), 3) := by decide +kernel
theorem dX8_never_106 : decode cX8_never 106 = .ok (.aload_n 0, 1) := by decide +kernel
theorem dX8_never_107 : decode cX8_never 107 = .ok (.bipush (-2), 2) := by decide +kernel
theorem dX8_never_109 : decode cX8_never 109 = .ok (.invokevirtual 112, 3) := by decide +kernel
theorem dX8_never_112 : decode cX8_never 112 = .ok (.ireturn, 1) := by decide +kernel
theorem dX8_best_0 : decode cX8_best 0 = .ok (.aload_n 0, 1) := by decide +kernel
theorem dX8_best_1 : decode cX8_best 1 = .ok (.iload_n 1, 1) := by decide +kernel
theorem dX8_best_2 : decode cX8_best 2 = .ok (.iload_n 2, 1) := by decide +kernel
theorem dX8_best_3 : decode cX8_best 3 = .ok (.iload_n 3, 1) := by decide +kernel
theorem dX8_best_4 : decode cX8_best 4 = .ok (.invokevirtual 198, 3) := by decide +kernel
theorem dX8_best_7 : decode cX8_best 7 = .ok (.ifCond .eq 5, 3) := by decide +kernel
theorem dX8_best_10 : decode cX8_best 10 = .ok (.iconst (-1), 1) := by decide +kernel
theorem dX8_best_11 : decode cX8_best 11 = .ok (.ireturn, 1) := by decide +kernel
theorem dX8_best_12 : decode cX8_best 12 = .ok (.aload_n 0, 1) := by decide +kernel
theorem dX8_best_13 : decode cX8_best 13 = .ok (.aload_n 0, 1) := by decide +kernel
theorem dX8_best_14 : decode cX8_best 14 = .ok (.iload_n 1, 1) := by decide +kernel
theorem dX8_best_15 : decode cX8_best 15 = .ok (.iload_n 2, 1) := by decide +kernel
theorem dX8_best_16 : decode cX8_best 16 = .ok (.iload_n 3, 1) := by decide +kernel
theorem dX8_best_17 : decode cX8_best 17 = .ok (.invokevirtual 202, 3) := by decide +kernel
theorem dX8_best_20 : decode cX8_best 20 = .ok (.invokevirtual 112, 3) := by decide +kernel
theorem dX8_best_23 : decode cX8_best 23 = .ok (.ireturn, 1) := by decide +kernel
theorem dX8_bestChance_0 : decode cX8_bestChance 0 = .ok (.aload_n 0, 1) := by decide +kernel
theorem dX8_bestChance_1 : decode cX8_bestChance 1 = .ok (.iload_n 1, 1) := by decide +kernel
theorem dX8_bestChance_2 : decode cX8_bestChance 2 = .ok (.iload_n 2, 1) := by decide +kernel
theorem dX8_bestChance_3 : decode cX8_bestChance 3 = .ok (.iload_n 3, 1) := by decide +kernel
theorem dX8_bestChance_4 : decode cX8_bestChance 4 = .ok (.invokevirtual 198, 3) := by decide +kernel
theorem dX8_bestChance_7 : decode cX8_bestChance 7 = .ok (.ifCond .eq 7, 3) := by decide +kernel
theorem dX8_bestChance_10 : decode cX8_bestChance 10 = .ok (.ldc2_w 206, 3) := by decide +kernel
theorem dX8_bestChance_13 : decode cX8_bestChance 13 = .ok (.lreturn, 1) := by decide +kernel
theorem dX8_bestChance_14 : decode cX8_bestChance 14 = .ok (.aload_n 0, 1) := by decide +kernel
theorem dX8_bestChance_15 : decode cX8_bestChance 15 = .ok (.iload_n 1, 1) := by decide +kernel
theorem dX8_bestChance_16 : decode cX8_bestChance 16 = .ok (.iload_n 2, 1) := by decide +kernel
theorem dX8_bestChance_17 : decode cX8_bestChance 17 = .ok (.iload_n 3, 1) := by decide +kernel
theorem dX8_bestChance_18 : decode cX8_bestChance 18 = .ok (.invokevirtual 202, 3) := by decide +kernel
theorem dX8_bestChance_21 : decode cX8_bestChance 21 = .ok (.istore 5, 2) := by decide +kernel
theorem dX8_bestChance_23 : decode cX8_bestChance 23 = .ok (.aload_n 0, 1) := by decide +kernel
theorem dX8_bestChance_24 : decode cX8_bestChance 24 = .ok (.getfield 49, 3) := by decide +kernel
theorem dX8_bestChance_27 : decode cX8_bestChance 27 = .ok (.aload_n 0, 1) := by decide +kernel
theorem dX8_bestChance_28 : decode cX8_bestChance 28 = .ok (.iload_n 1, 1) := by decide +kernel
theorem dX8_bestChance_29 : decode cX8_bestChance 29 = .ok (.iload 5, 2) := by decide +kernel
theorem dX8_bestChance_31 : decode cX8_bestChance 31 = .ok (.invokevirtual 208, 3) := by decide +kernel
theorem dX8_bestChance_34 : decode cX8_bestChance 34 = .ok (.iload_n 2, 1) := by decide +kernel
theorem dX8_bestChance_35 : decode cX8_bestChance 35 = .ok (.iconst 4, 1) := by decide +kernel
theorem dX8_bestChance_36 : decode cX8_bestChance 36 = .ok (.iload_n 3, 1) := by decide +kernel
theorem dX8_bestChance_37 : decode cX8_bestChance 37 = .ok (.iconst 0, 1) := by decide +kernel
theorem dX8_bestChance_38 : decode cX8_bestChance 38 = .ok (.invokevirtual 171, 3) := by decide +kernel
theorem dX8_bestChance_41 : decode cX8_bestChance 41 = .ok (.aload_n 0, 1) := by decide +kernel
theorem dX8_bestChance_42 : decode cX8_bestChance 42 = .ok (.aload_n 0, 1) := by decide +kernel
theorem dX8_bestChance_43 : decode cX8_bestChance 43 = .ok (.getfield 49, 3) := by decide +kernel
theorem dX8_bestChance_46 : decode cX8_bestChance 46 = .ok (.getfield 175, 3) := by decide +kernel
theorem dX8_bestChance_49 : decode cX8_bestChance 49 = .ok (.aload_n 0, 1) := by decide +kernel
theorem dX8_bestChance_50 : decode cX8_bestChance 50 = .ok (.getfield 49, 3) := by decide +kernel
theorem dX8_bestChance_53 : decode cX8_bestChance 53 = .ok (.getfield 179, 3) := by decide +kernel
theorem dX8_bestChance_56 : decode cX8_bestChance 56 = .ok (.iload 4, 2) := by decide +kernel
theorem dX8_bestChance_58 : decode cX8_bestChance 58 = .ok (.invokevirtual 212, 3) := by decide +kernel
theorem dX8_bestChance_61 : decode cX8_bestChance 61 = .ok (.lreturn, 1) := by decide +kernel
theorem dX8_likely_0 : decode cX8_likely 0 = .ok (.aload_n 0, 1) := by decide +kernel
theorem dX8_likely_1 : decode cX8_likely 1 = .ok (.getfield 28, 3) := by decide +kernel
theorem dX8_likely_4 : decode cX8_likely 4 = .ok (.getfield 186, 3) := by decide +kernel
theorem dX8_likely_7 : decode cX8_likely 7 = .ok (.ifCond .ne 9, 3) := by decide +kernel
theorem dX8_likely_10 : decode cX8_likely 10 = .ok (.aload_n 0, 1) := by decide +kernel
theorem dX8_likely_11 : decode cX8_likely 11 = .ok (.iconst 1, 1) := by decide +kernel
theorem dX8_likely_12 : decode cX8_likely 12 = .ok (.invokevirtual 95, 3) := by decide +kernel
theorem dX8_likely_15 : decode cX8_likely 15 = .ok (.ireturn, 1) := by decide +kernel
theorem dX8_likely_16 : decode cX8_likely 16 = .ok (.aload_n 0, 1) := by decide +kernel
theorem dX8_likely_17 : decode cX8_likely 17 = .ok (.getfield 28, 3) := by decide +kernel
theorem dX8_likely_20 : decode cX8_likely 20 = .ok (.getfield 154, 3) := by decide +kernel
theorem dX8_likely_23 : decode cX8_likely 23 = .ok (.ifCond .ne 10, 3) := by decide +kernel
theorem dX8_likely_26 : decode cX8_likely 26 = .ok (.aload_n 0, 1) := by decide +kernel
theorem dX8_likely_27 : decode cX8_likely 27 = .ok (.bipush 6, 2) := by decide +kernel
theorem dX8_likely_29 : decode cX8_likely 29 = .ok (.invokevirtual 95, 3) := by decide +kernel
theorem dX8_likely_32 : decode cX8_likely 32 = .ok (.ireturn, 1) := by decide +kernel
theorem dX8_likely_33 : decode cX8_likely 33 = .ok (.iconst 0, 1) := by decide +kernel
theorem dX8_likely_34 : decode cX8_likely 34 = .ok (.istore_n 1, 1) := by decide +kernel
theorem dX8_likely_35 : decode cX8_likely 35 = .ok (.iload_n 1, 1) := by decide +kernel
theorem dX8_likely_36 : decode cX8_likely 36 = .ok (.aload_n 0, 1) := by decide +kernel
theorem dX8_likely_37 : decode cX8_likely 37 = .ok (.getfield 28, 3) := by decide +kernel
theorem dX8_likely_40 : decode cX8_likely 40 = .ok (.getfield 109, 3) := by decide +kernel
theorem dX8_likely_43 : decode cX8_likely 43 = .ok (.if_icmp .ge 30, 3) := by decide +kernel
theorem dX8_likely_46 : decode cX8_likely 46 = .ok (.aload_n 0, 1) := by decide +kernel
theorem dX8_likely_47 : decode cX8_likely 47 = .ok (.iload_n 1, 1) := by decide +kernel
theorem dX8_likely_48 : decode cX8_likely 48 = .ok (.aload_n 0, 1) := by decide +kernel
theorem dX8_likely_49 : decode cX8_likely 49 = .ok (.getfield 28, 3) := by decide +kernel
theorem dX8_likely_52 : decode cX8_likely 52 = .ok (.getfield 157, 3) := by decide +kernel
theorem dX8_likely_55 : decode cX8_likely 55 = .ok (.invokevirtual 168, 3) := by decide +kernel
theorem dX8_likely_58 : decode cX8_likely 58 = .ok (.ifCond .eq 9, 3) := by decide +kernel
theorem dX8_likely_61 : decode cX8_likely 61 = .ok (.aload_n 0, 1) := by decide +kernel
theorem dX8_likely_62 : decode cX8_likely 62 = .ok (.iconst 3, 1) := by decide +kernel
theorem dX8_likely_63 : decode cX8_likely 63 = .ok (.invokevirtual 95, 3) := by decide +kernel
theorem dX8_likely_66 : decode cX8_likely 66 = .ok (.ireturn, 1) := by decide +kernel
theorem dX8_likely_67 : decode cX8_likely 67 = .ok (.iinc 1 1, 3) := by decide +kernel
theorem dX8_likely_70 : decode cX8_likely 70 = .ok (.goto (-35), 3) := by decide +kernel
theorem dX8_likely_73 : decode cX8_likely 73 = .ok (.aload_n 0, 1) := by decide +kernel
theorem dX8_likely_74 : decode cX8_likely 74 = .ok (.aload_n 0, 1) := by decide +kernel
theorem dX8_likely_75 : decode cX8_likely 75 = .ok (.invokevirtual 215, 3) := by decide +kernel
theorem dX8_likely_78 : decode cX8_likely 78 = .ok (.invokevirtual 112, 3) := by decide +kernel
theorem dX8_likely_81 : decode cX8_likely 81 = .ok (.ireturn, 1) := by decide +kernel
theorem dX8_cannot_0 : decode cX8_cannot 0 = .ok (.aload_n 0, 1) := by decide +kernel
theorem dX8_cannot_1 : decode cX8_cannot 1 = .ok (.iload_n 1, 1) := by decide +kernel
theorem dX8_cannot_2 : decode cX8_cannot 2 = .ok (.invokevirtual 121, 3) := by decide +kernel
theorem dX8_cannot_5 : decode cX8_cannot 5 = .ok (.ifCond .ne 9, 3) := by decide +kernel
theorem dX8_cannot_8 : decode cX8_cannot 8 = .ok (.aload_n 0, 1) := by decide +kernel
theorem dX8_cannot_9 : decode cX8_cannot 9 = .ok (.iconst 1, 1) := by decide +kernel
theorem dX8_cannot_10 : decode cX8_cannot 10 = .ok (.invokevirtual 95, 3) := by decide +kernel
theorem dX8_cannot_13 : decode cX8_cannot 13 = .ok (.ireturn, 1) := by decide +kernel
theorem dX8_cannot_14 : decode cX8_cannot 14 = .ok (.aload_n 0, 1) := by decide +kernel
theorem dX8_cannot_15 : decode cX8_cannot 15 = .ok (.iload_n 1, 1) := by decide +kernel
theorem dX8_cannot_16 : decode cX8_cannot 16 = .ok (.aload_n 0, 1) := by decide +kernel
theorem dX8_cannot_17 : decode cX8_cannot 17 = .ok (.getfield 28, 3) := by decide +kernel
theorem dX8_cannot_20 : decode cX8_cannot 20 = .ok (.getfield 157, 3) := by decide +kernel
theorem dX8_cannot_23 : decode cX8_cannot 23 = .ok (.invokevirtual 168, 3) := by decide +kernel
theorem dX8_cannot_26 : decode cX8_cannot 26 = .ok (.ifCond .eq 9, 3) := by decide +kernel
theorem dX8_cannot_29 : decode cX8_cannot 29 = .ok (.aload_n 0, 1) := by decide +kernel
theorem dX8_cannot_30 : decode cX8_cannot 30 = .ok (.iconst 3, 1) := by decide +kernel
theorem dX8_cannot_31 : decode cX8_cannot 31 = .ok (.invokevirtual 95, 3) := by decide +kernel
theorem dX8_cannot_34 : decode cX8_cannot 34 = .ok (.ireturn, 1) := by decide +kernel
theorem dX8_cannot_35 : decode cX8_cannot 35 = .ok (.aload_n 0, 1) := by decide +kernel
theorem dX8_cannot_36 : decode cX8_cannot 36 = .ok (.iload_n 1, 1) := by decide +kernel
theorem dX8_cannot_37 : decode cX8_cannot 37 = .ok (.invokevirtual 142, 3) := by decide +kernel
theorem dX8_cannot_40 : decode cX8_cannot 40 = .ok (.astore_n 2, 1) := by decide +kernel
theorem dX8_cannot_41 : decode cX8_cannot 41 = .ok (.iconst 0, 1) := by decide +kernel
theorem dX8_cannot_42 : decode cX8_cannot 42 = .ok (.istore_n 3, 1) := by decide +kernel
theorem dX8_cannot_43 : decode cX8_cannot 43 = .ok (.iconst 0, 1) := by decide +kernel
theorem dX8_cannot_44 : decode cX8_cannot 44 = .ok (.istore 4, 2) := by decide +kernel
theorem dX8_cannot_46 : decode cX8_cannot 46 = .ok (.iload 4, 2) := by decide +kernel
theorem dX8_cannot_48 : decode cX8_cannot 48 = .ok (.aload_n 0, 1) := by decide +kernel
theorem dX8_cannot_49 : decode cX8_cannot 49 = .ok (.getfield 28, 3) := by decide +kernel
theorem dX8_cannot_52 : decode cX8_cannot 52 = .ok (.getfield 154, 3) := by decide +kernel
theorem dX8_cannot_55 : decode cX8_cannot 55 = .ok (.if_icmp .ge 59, 3) := by decide +kernel
theorem dX8_cannot_58 : decode cX8_cannot 58 = .ok (.aload_n 0, 1) := by decide +kernel
theorem dX8_cannot_59 : decode cX8_cannot 59 = .ok (.getfield 49, 3) := by decide +kernel
theorem dX8_cannot_62 : decode cX8_cannot 62 = .ok (.aload_n 2, 1) := by decide +kernel
theorem dX8_cannot_63 : decode cX8_cannot 63 = .ok (.aload_n 0, 1) := by decide +kernel
theorem dX8_cannot_64 : decode cX8_cannot 64 = .ok (.getfield 28, 3) := by decide +kernel
theorem dX8_cannot_67 : decode cX8_cannot 67 = .ok (.getfield 157, 3) := by decide +kernel
theorem dX8_cannot_70 : decode cX8_cannot 70 = .ok (.bipush 7, 2) := by decide +kernel
theorem dX8_cannot_72 : decode cX8_cannot 72 = .ok (.aload_n 0, 1) := by decide +kernel
theorem dX8_cannot_73 : decode cX8_cannot 73 = .ok (.getfield 28, 3) := by decide +kernel
theorem dX8_cannot_76 : decode cX8_cannot 76 = .ok (.getfield 160, 3) := by decide +kernel
theorem dX8_cannot_79 : decode cX8_cannot 79 = .ok (.iload 4, 2) := by decide +kernel
theorem dX8_cannot_81 : decode cX8_cannot 81 = .ok (.aaload, 1) := by decide +kernel
theorem dX8_cannot_82 : decode cX8_cannot 82 = .ok (.invokestatic 164, 3) := by decide +kernel
theorem dX8_cannot_85 : decode cX8_cannot 85 = .ok (.iconst 0, 1) := by decide +kernel
theorem dX8_cannot_86 : decode cX8_cannot 86 = .ok (.invokevirtual 171, 3) := by decide +kernel
theorem dX8_cannot_89 : decode cX8_cannot 89 = .ok (.aload_n 0, 1) := by decide +kernel
theorem dX8_cannot_90 : decode cX8_cannot 90 = .ok (.getfield 49, 3) := by decide +kernel
theorem dX8_cannot_93 : decode cX8_cannot 93 = .ok (.getfield 175, 3) := by decide +kernel
theorem dX8_cannot_96 : decode cX8_cannot 96 = .ok (.lconst 0, 1) := by decide +kernel
theorem dX8_cannot_97 : decode cX8_cannot 97 = .ok (.lcmp, 1) := by decide +kernel
theorem dX8_cannot_98 : decode cX8_cannot 98 = .ok (.ifCond .ne 10, 3) := by decide +kernel
theorem dX8_cannot_101 : decode cX8_cannot 101 = .ok (.iload_n 3, 1) := by decide +kernel
theorem dX8_cannot_102 : decode cX8_cannot 102 = .ok (.iconst 1, 1) := by decide +kernel
theorem dX8_cannot_103 : decode cX8_cannot 103 = .ok (.iload 4, 2) := by decide +kernel
theorem dX8_cannot_105 : decode cX8_cannot 105 = .ok (.ishl, 1) := by decide +kernel
theorem dX8_cannot_106 : decode cX8_cannot 106 = .ok (.ior, 1) := by decide +kernel
theorem dX8_cannot_107 : decode cX8_cannot 107 = .ok (.istore_n 3, 1) := by decide +kernel
theorem dX8_cannot_108 : decode cX8_cannot 108 = .ok (.iinc 4 1, 3) := by decide +kernel
theorem dX8_cannot_111 : decode cX8_cannot 111 = .ok (.goto (-65), 3) := by decide +kernel
theorem dX8_cannot_114 : decode cX8_cannot 114 = .ok (.aload_n 0, 1) := by decide +kernel
theorem dX8_cannot_115 : decode cX8_cannot 115 = .ok (.iload_n 3, 1) := by decide +kernel
theorem dX8_cannot_116 : decode cX8_cannot 116 = .ok (.invokevirtual 112, 3) := by decide +kernel
theorem dX8_cannot_119 : decode cX8_cannot 119 = .ok (.ireturn, 1) := by decide +kernel
theorem dX8_day_0 : decode cX8_day 0 = .ok (.aload_n 0, 1) := by decide +kernel
theorem dX8_day_1 : decode cX8_day 1 = .ok (.aload_n 0, 1) := by decide +kernel
theorem dX8_day_2 : decode cX8_day 2 = .ok (.iload_n 1, 1) := by decide +kernel
theorem dX8_day_3 : decode cX8_day 3 = .ok (.invokevirtual 121, 3) := by decide +kernel
theorem dX8_day_6 : decode cX8_day 6 = .ok (.ifCond .ne 7, 3) := by decide +kernel
theorem dX8_day_9 : decode cX8_day 9 = .ok (.iconst 1, 1) := by decide +kernel
theorem dX8_day_10 : decode cX8_day 10 = .ok (.goto 18, 3) := by decide +kernel
theorem dX8_day_13 : decode cX8_day 13 = .ok (.iload_n 2, 1) := by decide +kernel
theorem dX8_day_14 : decode cX8_day 14 = .ok (.ifCond .lt 9, 3) := by decide +kernel
theorem dX8_day_17 : decode cX8_day 17 = .ok (.iload_n 2, 1) := by decide +kernel
theorem dX8_day_18 : decode cX8_day 18 = .ok (.ldc 219, 2) := by decide +kernel
theorem dX8_day_20 : decode cX8_day 20 = .ok (.if_icmp .lt 7, 3) := by decide +kernel
theorem dX8_day_23 : decode cX8_day 23 = .ok (.iconst 2, 1) := by decide +kernel
theorem dX8_day_24 : decode cX8_day 24 = .ok (.goto 4, 3) := by decide +kernel
theorem dX8_day_27 : decode cX8_day 27 = .ok (.iconst 0, 1) := by decide +kernel
theorem dX8_day_28 : decode cX8_day 28 = .ok (.putfield 85, 3) := by decide +kernel
theorem dX8_day_31 : decode cX8_day 31 = .ok (.aload_n 0, 1) := by decide +kernel
theorem dX8_day_32 : decode cX8_day 32 = .ok (.getfield 85, 3) := by decide +kernel
theorem dX8_day_35 : decode cX8_day 35 = .ok (.ifCond .eq 5, 3) := by decide +kernel
theorem dX8_day_38 : decode cX8_day 38 = .ok (.iconst 0, 1) := by decide +kernel
theorem dX8_day_39 : decode cX8_day 39 = .ok (.ireturn, 1) := by decide +kernel
theorem dX8_day_40 : decode cX8_day 40 = .ok (.aload_n 0, 1) := by decide +kernel
theorem dX8_day_41 : decode cX8_day 41 = .ok (.getfield 73, 3) := by decide +kernel
theorem dX8_day_44 : decode cX8_day 44 = .ok (.iload_n 1, 1) := by decide +kernel
theorem dX8_day_45 : decode cX8_day 45 = .ok (.iload_n 2, 1) := by decide +kernel
theorem dX8_day_46 : decode cX8_day 46 = .ok (.invokevirtual 106, 3) := by decide +kernel
theorem dX8_day_49 : decode cX8_day 49 = .ok (.iconst 1, 1) := by decide +kernel
theorem dX8_day_50 : decode cX8_day 50 = .ok (.ireturn, 1) := by decide +kernel
theorem dX8_put_0 : decode cX8_put 0 = .ok (.aload_n 0, 1) := by decide +kernel
theorem dX8_put_1 : decode cX8_put 1 = .ok (.getfield 28, 3) := by decide +kernel
theorem dX8_put_4 : decode cX8_put 4 = .ok (.getfield 186, 3) := by decide +kernel
theorem dX8_put_7 : decode cX8_put 7 = .ok (.ifCond .ne 9, 3) := by decide +kernel
theorem dX8_put_10 : decode cX8_put 10 = .ok (.aload_n 0, 1) := by decide +kernel
theorem dX8_put_11 : decode cX8_put 11 = .ok (.iconst 1, 1) := by decide +kernel
theorem dX8_put_12 : decode cX8_put 12 = .ok (.invokevirtual 95, 3) := by decide +kernel
theorem dX8_put_15 : decode cX8_put 15 = .ok (.ireturn, 1) := by decide +kernel
theorem dX8_put_16 : decode cX8_put 16 = .ok (.iload_n 1, 1) := by decide +kernel
theorem dX8_put_17 : decode cX8_put 17 = .ok (.iconst 1, 1) := by decide +kernel
theorem dX8_put_18 : decode cX8_put 18 = .ok (.if_icmp .lt 9, 3) := by decide +kernel
theorem dX8_put_21 : decode cX8_put 21 = .ok (.iload_n 1, 1) := by decide +kernel
theorem dX8_put_22 : decode cX8_put 22 = .ok (.bipush 8, 2) := by decide +kernel
theorem dX8_put_24 : decode cX8_put 24 = .ok (.if_icmp .le 9, 3) := by decide +kernel
theorem dX8_put_27 : decode cX8_put 27 = .ok (.aload_n 0, 1) := by decide +kernel
theorem dX8_put_28 : decode cX8_put 28 = .ok (.iconst 2, 1) := by decide +kernel
theorem dX8_put_29 : decode cX8_put 29 = .ok (.invokevirtual 95, 3) := by decide +kernel
theorem dX8_put_32 : decode cX8_put 32 = .ok (.ireturn, 1) := by decide +kernel
theorem dX8_put_33 : decode cX8_put 33 = .ok (.aload_n 0, 1) := by decide +kernel
theorem dX8_put_34 : decode cX8_put 34 = .ok (.getfield 73, 3) := by decide +kernel
theorem dX8_put_37 : decode cX8_put 37 = .ok (.getfield 220, 3) := by decide +kernel
theorem dX8_put_40 : decode cX8_put 40 = .ok (.aload_n 0, 1) := by decide +kernel
theorem dX8_put_41 : decode cX8_put 41 = .ok (.getfield 28, 3) := by decide +kernel
theorem dX8_put_44 : decode cX8_put 44 = .ok (.getfield 157, 3) := by decide +kernel
theorem dX8_put_47 : decode cX8_put 47 = .ok (.if_icmp .lt 10, 3) := by decide +kernel
theorem dX8_put_50 : decode cX8_put 50 = .ok (.aload_n 0, 1) := by decide +kernel
theorem dX8_put_51 : decode cX8_put 51 = .ok (.bipush 6, 2) := by decide +kernel
theorem dX8_put_53 : decode cX8_put 53 = .ok (.invokevirtual 95, 3) := by decide +kernel
theorem dX8_put_56 : decode cX8_put 56 = .ok (.ireturn, 1) := by decide +kernel
theorem dX8_put_57 : decode cX8_put 57 = .ok (.aload_n 0, 1) := by decide +kernel
theorem dX8_put_58 : decode cX8_put 58 = .ok (.getfield 40, 3) := by decide +kernel
theorem dX8_put_61 : decode cX8_put 61 = .ok (.aload_n 0, 1) := by decide +kernel
theorem dX8_put_62 : decode cX8_put 62 = .ok (.getfield 28, 3) := by decide +kernel
theorem dX8_put_65 : decode cX8_put 65 = .ok (.aload_n 0, 1) := by decide +kernel
theorem dX8_put_66 : decode cX8_put 66 = .ok (.getfield 28, 3) := by decide +kernel
theorem dX8_put_69 : decode cX8_put 69 = .ok (.getfield 221, 3) := by decide +kernel
theorem dX8_put_72 : decode cX8_put 72 = .ok (.aload_n 0, 1) := by decide +kernel
theorem dX8_put_73 : decode cX8_put 73 = .ok (.getfield 73, 3) := by decide +kernel
theorem dX8_put_76 : decode cX8_put 76 = .ok (.getfield 225, 3) := by decide +kernel
theorem dX8_put_79 : decode cX8_put 79 = .ok (.aaload, 1) := by decide +kernel
theorem dX8_put_80 : decode cX8_put 80 = .ok (.invokevirtual 227, 3) := by decide +kernel
theorem dX8_put_83 : decode cX8_put 83 = .ok (.iload_n 1, 1) := by decide +kernel
theorem dX8_put_84 : decode cX8_put 84 = .ok (.aload_n 0, 1) := by decide +kernel
theorem dX8_put_85 : decode cX8_put 85 = .ok (.getfield 28, 3) := by decide +kernel
theorem dX8_put_88 : decode cX8_put 88 = .ok (.getfield 157, 3) := by decide +kernel
theorem dX8_put_91 : decode cX8_put 91 = .ok (.aload_n 0, 1) := by decide +kernel
theorem dX8_put_92 : decode cX8_put 92 = .ok (.getfield 73, 3) := by decide +kernel
theorem dX8_put_95 : decode cX8_put 95 = .ok (.getfield 220, 3) := by decide +kernel
theorem dX8_put_98 : decode cX8_put 98 = .ok (.isub, 1) := by decide +kernel
theorem dX8_put_99 : decode cX8_put 99 = .ok (.invokestatic 231, 3) := by decide +kernel
theorem dX8_put_102 : decode cX8_put 102 = .ok (.istore_n 2, 1) := by decide +kernel
theorem dX8_put_103 : decode cX8_put 103 = .ok (.iconst 0, 1) := by decide +kernel
theorem dX8_put_104 : decode cX8_put 104 = .ok (.istore_n 3, 1) := by decide +kernel
theorem dX8_put_105 : decode cX8_put 105 = .ok (.iload_n 3, 1) := by decide +kernel
theorem dX8_put_106 : decode cX8_put 106 = .ok (.iload_n 2, 1) := by decide +kernel
theorem dX8_put_107 : decode cX8_put 107 = .ok (.if_icmp .ge 20, 3) := by decide +kernel
theorem dX8_put_110 : decode cX8_put 110 = .ok (.aload_n 0, 1) := by decide +kernel
theorem dX8_put_111 : decode cX8_put 111 = .ok (.getfield 40, 3) := by decide +kernel
theorem dX8_put_114 : decode cX8_put 114 = .ok (.aload_n 0, 1) := by decide +kernel
theorem dX8_put_115 : decode cX8_put 115 = .ok (.getfield 73, 3) := by decide +kernel
theorem dX8_put_118 : decode cX8_put 118 = .ok (.invokevirtual 237, 3) := by decide +kernel
theorem dX8_put_121 : decode cX8_put 121 = .ok (.iinc 3 1, 3) := by decide +kernel
theorem dX8_put_124 : decode cX8_put 124 = .ok (.goto (-19), 3) := by decide +kernel
theorem dX8_put_127 : decode cX8_put 127 = .ok (.aload_n 0, 1) := by decide +kernel
theorem dX8_put_128 : decode cX8_put 128 = .ok (.iload_n 2, 1) := by decide +kernel
theorem dX8_put_129 : decode cX8_put 129 = .ok (.invokevirtual 112, 3) := by decide +kernel
theorem dX8_put_132 : decode cX8_put 132 = .ok (.ireturn, 1) := by decide +kernel
theorem dX8_goes_0 : decode cX8_goes 0 = .ok (.aload_n 0, 1) := by decide +kernel
theorem dX8_goes_1 : decode cX8_goes 1 = .ok (.iload_n 1, 1) := by decide +kernel
theorem dX8_goes_2 : decode cX8_goes 2 = .ok (.invokevirtual 241, 3) := by decide +kernel
theorem dX8_goes_5 : decode cX8_goes 5 = .ok (.ifCond .eq 7, 3) := by decide +kernel
theorem dX8_goes_8 : decode cX8_goes 8 = .ok (.ldc2_w 206, 3) := by decide +kernel
theorem dX8_goes_11 : decode cX8_goes 11 = .ok (.lreturn, 1) := by decide +kernel
theorem dX8_goes_12 : decode cX8_goes 12 = .ok (.aload_n 0, 1) := by decide +kernel
theorem dX8_goes_13 : decode cX8_goes 13 = .ok (.getfield 40, 3) := by decide +kernel
theorem dX8_goes_16 : decode cX8_goes 16 = .ok (.aload_n 0, 1) := by decide +kernel
theorem dX8_goes_17 : decode cX8_goes 17 = .ok (.getfield 28, 3) := by decide +kernel
theorem dX8_goes_20 : decode cX8_goes 20 = .ok (.aload_n 0, 1) := by decide +kernel
theorem dX8_goes_21 : decode cX8_goes 21 = .ok (.getfield 28, 3) := by decide +kernel
theorem dX8_goes_24 : decode cX8_goes 24 = .ok (.getfield 221, 3) := by decide +kernel
theorem dX8_goes_27 : decode cX8_goes 27 = .ok (.aload_n 0, 1) := by decide +kernel
theorem dX8_goes_28 : decode cX8_goes 28 = .ok (.getfield 73, 3) := by decide +kernel
theorem dX8_goes_31 : decode cX8_goes 31 = .ok (.getfield 225, 3) := by decide +kernel
theorem dX8_goes_34 : decode cX8_goes 34 = .ok (.aaload, 1) := by decide +kernel
theorem dX8_goes_35 : decode cX8_goes 35 = .ok (.invokevirtual 227, 3) := by decide +kernel
theorem dX8_goes_38 : decode cX8_goes 38 = .ok (.aload_n 0, 1) := by decide +kernel
theorem dX8_goes_39 : decode cX8_goes 39 = .ok (.getfield 40, 3) := by decide +kernel
theorem dX8_goes_42 : decode cX8_goes 42 = .ok (.aload_n 0, 1) := by decide +kernel
theorem dX8_goes_43 : decode cX8_goes 43 = .ok (.getfield 73, 3) := by decide +kernel
theorem dX8_goes_46 : decode cX8_goes 46 = .ok (.getfield 244, 3) := by decide +kernel
theorem dX8_goes_49 : decode cX8_goes 49 = .ok (.aload_n 0, 1) := by decide +kernel
theorem dX8_goes_50 : decode cX8_goes 50 = .ok (.getfield 73, 3) := by decide +kernel
theorem dX8_goes_53 : decode cX8_goes 53 = .ok (.getfield 248, 3) := by decide +kernel
theorem dX8_goes_56 : decode cX8_goes 56 = .ok (.aload_n 0, 1) := by decide +kernel
theorem dX8_goes_57 : decode cX8_goes 57 = .ok (.getfield 73, 3) := by decide +kernel
theorem dX8_goes_60 : decode cX8_goes 60 = .ok (.getfield 220, 3) := by decide +kernel
theorem dX8_goes_63 : decode cX8_goes 63 = .ok (.iconst 1, 1) := by decide +kernel
theorem dX8_goes_64 : decode cX8_goes 64 = .ok (.iadd, 1) := by decide +kernel
theorem dX8_goes_65 : decode cX8_goes 65 = .ok (.invokevirtual 251, 3) := by decide +kernel
theorem dX8_goes_68 : decode cX8_goes 68 = .ok (.aload_n 0, 1) := by decide +kernel
theorem dX8_goes_69 : decode cX8_goes 69 = .ok (.aload_n 0, 1) := by decide +kernel
theorem dX8_goes_70 : decode cX8_goes 70 = .ok (.getfield 40, 3) := by decide +kernel
theorem dX8_goes_73 : decode cX8_goes 73 = .ok (.aload_n 0, 1) := by decide +kernel
theorem dX8_goes_74 : decode cX8_goes 74 = .ok (.getfield 73, 3) := by decide +kernel
theorem dX8_goes_77 : decode cX8_goes 77 = .ok (.getfield 244, 3) := by decide +kernel
theorem dX8_goes_80 : decode cX8_goes 80 = .ok (.iload_n 1, 1) := by decide +kernel
theorem dX8_goes_81 : decode cX8_goes 81 = .ok (.invokevirtual 255, 3) := by decide +kernel
theorem dX8_goes_84 : decode cX8_goes 84 = .ok (.aload_n 0, 1) := by decide +kernel
theorem dX8_goes_85 : decode cX8_goes 85 = .ok (.getfield 40, 3) := by decide +kernel
theorem dX8_goes_88 : decode cX8_goes 88 = .ok (.invokevirtual 259, 3) := by decide +kernel
theorem dX8_goes_91 : decode cX8_goes 91 = .ok (.iload_n 2, 1) := by decide +kernel
theorem dX8_goes_92 : decode cX8_goes 92 = .ok (.invokevirtual 212, 3) := by decide +kernel
theorem dX8_goes_95 : decode cX8_goes 95 = .ok (.lreturn, 1) := by decide +kernel
theorem dX8_place_0 : decode cX8_place 0 = .ok (.aload_n 0, 1) := by decide +kernel
theorem dX8_place_1 : decode cX8_place 1 = .ok (.iload_n 1, 1) := by decide +kernel
theorem dX8_place_2 : decode cX8_place 2 = .ok (.invokevirtual 241, 3) := by decide +kernel
theorem dX8_place_5 : decode cX8_place 5 = .ok (.ifCond .eq 5, 3) := by decide +kernel
theorem dX8_place_8 : decode cX8_place 8 = .ok (.iconst (-1), 1) := by decide +kernel
theorem dX8_place_9 : decode cX8_place 9 = .ok (.ireturn, 1) := by decide +kernel
theorem dX8_place_10 : decode cX8_place 10 = .ok (.aload_n 0, 1) := by decide +kernel
theorem dX8_place_11 : decode cX8_place 11 = .ok (.getfield 40, 3) := by decide +kernel
theorem dX8_place_14 : decode cX8_place 14 = .ok (.aload_n 0, 1) := by decide +kernel
theorem dX8_place_15 : decode cX8_place 15 = .ok (.getfield 28, 3) := by decide +kernel
theorem dX8_place_18 : decode cX8_place 18 = .ok (.aload_n 0, 1) := by decide +kernel
theorem dX8_place_19 : decode cX8_place 19 = .ok (.getfield 28, 3) := by decide +kernel
theorem dX8_place_22 : decode cX8_place 22 = .ok (.getfield 221, 3) := by decide +kernel
theorem dX8_place_25 : decode cX8_place 25 = .ok (.aload_n 0, 1) := by decide +kernel
theorem dX8_place_26 : decode cX8_place 26 = .ok (.getfield 73, 3) := by decide +kernel
theorem dX8_place_29 : decode cX8_place 29 = .ok (.getfield 225, 3) := by decide +kernel
theorem dX8_place_32 : decode cX8_place 32 = .ok (.aaload, 1) := by decide +kernel
theorem dX8_place_33 : decode cX8_place 33 = .ok (.invokevirtual 227, 3) := by decide +kernel
theorem dX8_place_36 : decode cX8_place 36 = .ok (.aload_n 0, 1) := by decide +kernel
theorem dX8_place_37 : decode cX8_place 37 = .ok (.getfield 40, 3) := by decide +kernel
theorem dX8_place_40 : decode cX8_place 40 = .ok (.aload_n 0, 1) := by decide +kernel
theorem dX8_place_41 : decode cX8_place 41 = .ok (.getfield 73, 3) := by decide +kernel
theorem dX8_place_44 : decode cX8_place 44 = .ok (.getfield 244, 3) := by decide +kernel
theorem dX8_place_47 : decode cX8_place 47 = .ok (.aload_n 0, 1) := by decide +kernel
theorem dX8_place_48 : decode cX8_place 48 = .ok (.getfield 73, 3) := by decide +kernel
theorem dX8_place_51 : decode cX8_place 51 = .ok (.getfield 248, 3) := by decide +kernel
theorem dX8_place_54 : decode cX8_place 54 = .ok (.aload_n 0, 1) := by decide +kernel
theorem dX8_place_55 : decode cX8_place 55 = .ok (.getfield 73, 3) := by decide +kernel
theorem dX8_place_58 : decode cX8_place 58 = .ok (.getfield 220, 3) := by decide +kernel
theorem dX8_place_61 : decode cX8_place 61 = .ok (.iconst 1, 1) := by decide +kernel
theorem dX8_place_62 : decode cX8_place 62 = .ok (.iadd, 1) := by decide +kernel
theorem dX8_place_63 : decode cX8_place 63 = .ok (.invokevirtual 251, 3) := by decide +kernel
theorem dX8_place_66 : decode cX8_place 66 = .ok (.aload_n 0, 1) := by decide +kernel
theorem dX8_place_67 : decode cX8_place 67 = .ok (.getfield 40, 3) := by decide +kernel
theorem dX8_place_70 : decode cX8_place 70 = .ok (.aload_n 0, 1) := by decide +kernel
theorem dX8_place_71 : decode cX8_place 71 = .ok (.getfield 73, 3) := by decide +kernel
theorem dX8_place_74 : decode cX8_place 74 = .ok (.getfield 244, 3) := by decide +kernel
theorem dX8_place_77 : decode cX8_place 77 = .ok (.iload_n 1, 1) := by decide +kernel
theorem dX8_place_78 : decode cX8_place 78 = .ok (.invokevirtual 263, 3) := by decide +kernel
theorem dX8_place_81 : decode cX8_place 81 = .ok (.istore_n 2, 1) := by decide +kernel
theorem dX8_place_82 : decode cX8_place 82 = .ok (.iload_n 2, 1) := by decide +kernel
theorem dX8_place_83 : decode cX8_place 83 = .ok (.ifCond .ge 9, 3) := by decide +kernel
theorem dX8_place_86 : decode cX8_place 86 = .ok (.aload_n 0, 1) := by decide +kernel
theorem dX8_place_87 : decode cX8_place 87 = .ok (.iconst 5, 1) := by decide +kernel
theorem dX8_place_88 : decode cX8_place 88 = .ok (.invokevirtual 95, 3) := by decide +kernel
theorem dX8_place_91 : decode cX8_place 91 = .ok (.ireturn, 1) := by decide +kernel
theorem dX8_place_92 : decode cX8_place 92 = .ok (.aload_n 0, 1) := by decide +kernel
theorem dX8_place_93 : decode cX8_place 93 = .ok (.getfield 73, 3) := by decide +kernel
theorem dX8_place_96 : decode cX8_place 96 = .ok (.aload_n 0, 1) := by decide +kernel
theorem dX8_place_97 : decode cX8_place 97 = .ok (.getfield 28, 3) := by decide +kernel
theorem dX8_place_100 : decode cX8_place 100 = .ok (.iload_n 1, 1) := by decide +kernel
theorem dX8_place_101 : decode cX8_place 101 = .ok (.iload_n 2, 1) := by decide +kernel
theorem dX8_place_102 : decode cX8_place 102 = .ok (.invokevirtual 267, 3) := by decide +kernel
theorem dX8_place_105 : decode cX8_place 105 = .ok (.aload_n 0, 1) := by decide +kernel
theorem dX8_place_106 : decode cX8_place 106 = .ok (.aload_n 0, 1) := by decide +kernel
theorem dX8_place_107 : decode cX8_place 107 = .ok (.getfield 73, 3) := by decide +kernel
theorem dX8_place_110 : decode cX8_place 110 = .ok (.getfield 244, 3) := by decide +kernel
theorem dX8_place_113 : decode cX8_place 113 = .ok (.iload_n 1, 1) := by decide +kernel
theorem dX8_place_114 : decode cX8_place 114 = .ok (.iaload, 1) := by decide +kernel
theorem dX8_place_115 : decode cX8_place 115 = .ok (.invokevirtual 112, 3) := by decide +kernel
theorem dX8_place_118 : decode cX8_place 118 = .ok (.ireturn, 1) := by decide +kernel
theorem dX8_box_0 : decode cX8_box 0 = .ok (.aload_n 0, 1) := by decide +kernel
theorem dX8_box_1 : decode cX8_box 1 = .ok (.iload_n 1, 1) := by decide +kernel
theorem dX8_box_2 : decode cX8_box 2 = .ok (.invokevirtual 135, 3) := by decide +kernel
theorem dX8_box_5 : decode cX8_box 5 = .ok (.ifCond .eq 19, 3) := by decide +kernel
theorem dX8_box_8 : decode cX8_box 8 = .ok (.aload_n 0, 1) := by decide +kernel
theorem dX8_box_9 : decode cX8_box 9 = .ok (.aload_n 0, 1) := by decide +kernel
theorem dX8_box_10 : decode cX8_box 10 = .ok (.getfield 73, 3) := by decide +kernel
theorem dX8_box_13 : decode cX8_box 13 = .ok (.getfield 244, 3) := by decide +kernel
theorem dX8_box_16 : decode cX8_box 16 = .ok (.iload_n 1, 1) := by decide +kernel
theorem dX8_box_17 : decode cX8_box 17 = .ok (.iaload, 1) := by decide +kernel
theorem dX8_box_18 : decode cX8_box 18 = .ok (.invokevirtual 112, 3) := by decide +kernel
theorem dX8_box_21 : decode cX8_box 21 = .ok (.goto 8, 3) := by decide +kernel
theorem dX8_box_24 : decode cX8_box 24 = .ok (.aload_n 0, 1) := by decide +kernel
theorem dX8_box_25 : decode cX8_box 25 = .ok (.iconst 1, 1) := by decide +kernel
theorem dX8_box_26 : decode cX8_box 26 = .ok (.invokevirtual 95, 3) := by decide +kernel
theorem dX8_box_29 : decode cX8_box 29 = .ok (.ireturn, 1) := by decide +kernel
theorem dX8_recall_0 : decode cX8_recall 0 = .ok (.aload_n 0, 1) := by decide +kernel
theorem dX8_recall_1 : decode cX8_recall 1 = .ok (.getfield 28, 3) := by decide +kernel
theorem dX8_recall_4 : decode cX8_recall 4 = .ok (.getfield 186, 3) := by decide +kernel
theorem dX8_recall_7 : decode cX8_recall 7 = .ok (.ifCond .ne 9, 3) := by decide +kernel
theorem dX8_recall_10 : decode cX8_recall 10 = .ok (.aload_n 0, 1) := by decide +kernel
theorem dX8_recall_11 : decode cX8_recall 11 = .ok (.iconst 1, 1) := by decide +kernel
theorem dX8_recall_12 : decode cX8_recall 12 = .ok (.invokevirtual 95, 3) := by decide +kernel
theorem dX8_recall_15 : decode cX8_recall 15 = .ok (.ireturn, 1) := by decide +kernel
theorem dX8_recall_16 : decode cX8_recall 16 = .ok (.aload_n 0, 1) := by decide +kernel
theorem dX8_recall_17 : decode cX8_recall 17 = .ok (.aload_n 0, 1) := by decide +kernel
theorem dX8_recall_18 : decode cX8_recall 18 = .ok (.getfield 73, 3) := by decide +kernel
theorem dX8_recall_21 : decode cX8_recall 21 = .ok (.getfield 248, 3) := by decide +kernel
theorem dX8_recall_24 : decode cX8_recall 24 = .ok (.ifCond .ne 8, 3) := by decide +kernel
theorem dX8_recall_27 : decode cX8_recall 27 = .ok (.bipush (-2), 2) := by decide +kernel
theorem dX8_recall_29 : decode cX8_recall 29 = .ok (.goto 12, 3) := by decide +kernel
theorem dX8_recall_32 : decode cX8_recall 32 = .ok (.aload_n 0, 1) := by decide +kernel
theorem dX8_recall_33 : decode cX8_recall 33 = .ok (.getfield 73, 3) := by decide +kernel
theorem dX8_recall_36 : decode cX8_recall 36 = .ok (.getfield 248, 3) := by decide +kernel
theorem dX8_recall_39 : decode cX8_recall 39 = .ok (.iconst 1, 1) := by decide +kernel
theorem dX8_recall_40 : decode cX8_recall 40 = .ok (.isub, 1) := by decide +kernel
theorem dX8_recall_41 : decode cX8_recall 41 = .ok (.invokevirtual 112, 3) := by decide +kernel
theorem dX8_recall_44 : decode cX8_recall 44 = .ok (.ireturn, 1) := by decide +kernel
theorem dX8_mark_0 : decode cX8_mark 0 = .ok (.aload_n 0, 1) := by decide +kernel
theorem dX8_mark_1 : decode cX8_mark 1 = .ok (.getfield 28, 3) := by decide +kernel
theorem dX8_mark_4 : decode cX8_mark 4 = .ok (.getfield 186, 3) := by decide +kernel
theorem dX8_mark_7 : decode cX8_mark 7 = .ok (.ifCond .ne 9, 3) := by decide +kernel
theorem dX8_mark_10 : decode cX8_mark 10 = .ok (.aload_n 0, 1) := by decide +kernel
theorem dX8_mark_11 : decode cX8_mark 11 = .ok (.iconst 1, 1) := by decide +kernel
theorem dX8_mark_12 : decode cX8_mark 12 = .ok (.invokevirtual 95, 3) := by decide +kernel
theorem dX8_mark_15 : decode cX8_mark 15 = .ok (.ireturn, 1) := by decide +kernel
theorem dX8_mark_16 : decode cX8_mark 16 = .ok (.aload_n 0, 1) := by decide +kernel
theorem dX8_mark_17 : decode cX8_mark 17 = .ok (.getfield 81, 3) := by decide +kernel
theorem dX8_mark_20 : decode cX8_mark 20 = .ok (.iconst 3, 1) := by decide +kernel
theorem dX8_mark_21 : decode cX8_mark 21 = .ok (.if_icmp .lt 9, 3) := by decide +kernel
theorem dX8_mark_24 : decode cX8_mark 24 = .ok (.aload_n 0, 1) := by decide +kernel
theorem dX8_mark_25 : decode cX8_mark 25 = .ok (.iconst 3, 1) := by decide +kernel
theorem dX8_mark_26 : decode cX8_mark 26 = .ok (.invokevirtual 95, 3) := by decide +kernel
theorem dX8_mark_29 : decode cX8_mark 29 = .ok (.ireturn, 1) := by decide +kernel
theorem dX8_mark_30 : decode cX8_mark 30 = .ok (.aload_n 0, 1) := by decide +kernel
theorem dX8_mark_31 : decode cX8_mark 31 = .ok (.getfield 77, 3) := by decide +kernel
theorem dX8_mark_34 : decode cX8_mark 34 = .ok (.aload_n 0, 1) := by decide +kernel
theorem dX8_mark_35 : decode cX8_mark 35 = .ok (.getfield 81, 3) := by decide +kernel
theorem dX8_mark_38 : decode cX8_mark 38 = .ok (.aaload, 1) := by decide +kernel
theorem dX8_mark_39 : decode cX8_mark 39 = .ok (.aload_n 0, 1) := by decide +kernel
theorem dX8_mark_40 : decode cX8_mark 40 = .ok (.getfield 73, 3) := by decide +kernel
theorem dX8_mark_43 : decode cX8_mark 43 = .ok (.invokevirtual 271, 3) := by decide +kernel
theorem dX8_mark_46 : decode cX8_mark 46 = .ok (.aload_n 0, 1) := by decide +kernel
theorem dX8_mark_47 : decode cX8_mark 47 = .ok (.dup, 1) := by decide +kernel
theorem dX8_mark_48 : decode cX8_mark 48 = .ok (.getfield 81, 3) := by decide +kernel
theorem dX8_mark_51 : decode cX8_mark 51 = .ok (.iconst 1, 1) := by decide +kernel
theorem dX8_mark_52 : decode cX8_mark 52 = .ok (.iadd, 1) := by decide +kernel
theorem dX8_mark_53 : decode cX8_mark 53 = .ok (.putfield 81, 3) := by decide +kernel
theorem dX8_mark_56 : decode cX8_mark 56 = .ok (.aload_n 0, 1) := by decide +kernel
theorem dX8_mark_57 : decode cX8_mark 57 = .ok (.aload_n 0, 1) := by decide +kernel
theorem dX8_mark_58 : decode cX8_mark 58 = .ok (.getfield 81, 3) := by decide +kernel
theorem dX8_mark_61 : decode cX8_mark 61 = .ok (.iconst 1, 1) := by decide +kernel
theorem dX8_mark_62 : decode cX8_mark 62 = .ok (.isub, 1) := by decide +kernel
theorem dX8_mark_63 : decode cX8_mark 63 = .ok (.invokevirtual 112, 3) := by decide +kernel
theorem dX8_mark_66 : decode cX8_mark 66 = .ok (.ireturn, 1) := by decide +kernel
theorem dX8_back_0 : decode cX8_back 0 = .ok (.aload_n 0, 1) := by decide +kernel
theorem dX8_back_1 : decode cX8_back 1 = .ok (.iload_n 1, 1) := by decide +kernel
theorem dX8_back_2 : decode cX8_back 2 = .ok (.ifCond .lt 11, 3) := by decide +kernel
theorem dX8_back_5 : decode cX8_back 5 = .ok (.iload_n 1, 1) := by decide +kernel
theorem dX8_back_6 : decode cX8_back 6 = .ok (.aload_n 0, 1) := by decide +kernel
theorem dX8_back_7 : decode cX8_back 7 = .ok (.getfield 81, 3) := by decide +kernel
theorem dX8_back_10 : decode cX8_back 10 = .ok (.if_icmp .lt 7, 3) := by decide +kernel
theorem dX8_back_13 : decode cX8_back 13 = .ok (.iconst 1, 1) := by decide +kernel
theorem dX8_back_14 : decode cX8_back 14 = .ok (.goto 4, 3) := by decide +kernel
theorem dX8_back_17 : decode cX8_back 17 = .ok (.iconst 0, 1) := by decide +kernel
theorem dX8_back_18 : decode cX8_back 18 = .ok (.putfield 85, 3) := by decide +kernel
theorem dX8_back_21 : decode cX8_back 21 = .ok (.aload_n 0, 1) := by decide +kernel
theorem dX8_back_22 : decode cX8_back 22 = .ok (.getfield 85, 3) := by decide +kernel
theorem dX8_back_25 : decode cX8_back 25 = .ok (.ifCond .eq 5, 3) := by decide +kernel
theorem dX8_back_28 : decode cX8_back 28 = .ok (.iconst 0, 1) := by decide +kernel
theorem dX8_back_29 : decode cX8_back 29 = .ok (.ireturn, 1) := by decide +kernel
theorem dX8_back_30 : decode cX8_back 30 = .ok (.aload_n 0, 1) := by decide +kernel
theorem dX8_back_31 : decode cX8_back 31 = .ok (.getfield 73, 3) := by decide +kernel
theorem dX8_back_34 : decode cX8_back 34 = .ok (.aload_n 0, 1) := by decide +kernel
theorem dX8_back_35 : decode cX8_back 35 = .ok (.getfield 77, 3) := by decide +kernel
theorem dX8_back_38 : decode cX8_back 38 = .ok (.iload_n 1, 1) := by decide +kernel
theorem dX8_back_39 : decode cX8_back 39 = .ok (.aaload, 1) := by decide +kernel
theorem dX8_back_40 : decode cX8_back 40 = .ok (.invokevirtual 271, 3) := by decide +kernel
theorem dX8_back_43 : decode cX8_back 43 = .ok (.iconst 1, 1) := by decide +kernel
theorem dX8_back_44 : decode cX8_back 44 = .ok (.ireturn, 1) := by decide +kernel
theorem dX8_porter_0 : decode cX8_porter 0 = .ok (.aload_n 0, 1) := by decide +kernel
theorem dX8_porter_1 : decode cX8_porter 1 = .ok (.iload_n 1, 1) := by decide +kernel
theorem dX8_porter_2 : decode cX8_porter 2 = .ok (.invokevirtual 121, 3) := by decide +kernel
theorem dX8_porter_5 : decode cX8_porter 5 = .ok (.ifCond .eq 12, 3) := by decide +kernel
theorem dX8_porter_8 : decode cX8_porter 8 = .ok (.iload_n 2, 1) := by decide +kernel
theorem dX8_porter_9 : decode cX8_porter 9 = .ok (.ifCond .lt 8, 3) := by decide +kernel
theorem dX8_porter_12 : decode cX8_porter 12 = .ok (.iload_n 2, 1) := by decide +kernel
theorem dX8_porter_13 : decode cX8_porter 13 = .ok (.iconst 2, 1) := by decide +kernel
theorem dX8_porter_14 : decode cX8_porter 14 = .ok (.if_icmp .le 9, 3) := by decide +kernel
theorem dX8_porter_17 : decode cX8_porter 17 = .ok (.aload_n 0, 1) := by decide +kernel
theorem dX8_porter_18 : decode cX8_porter 18 = .ok (.iconst 1, 1) := by decide +kernel
theorem dX8_porter_19 : decode cX8_porter 19 = .ok (.invokevirtual 95, 3) := by decide +kernel
theorem dX8_porter_22 : decode cX8_porter 22 = .ok (.ireturn, 1) := by decide +kernel
theorem dX8_porter_23 : decode cX8_porter 23 = .ok (.aload_n 0, 1) := by decide +kernel
theorem dX8_porter_24 : decode cX8_porter 24 = .ok (.getfield 28, 3) := by decide +kernel
theorem dX8_porter_27 : decode cX8_porter 27 = .ok (.getfield 221, 3) := by decide +kernel
theorem dX8_porter_30 : decode cX8_porter 30 = .ok (.iload_n 1, 1) := by decide +kernel
theorem dX8_porter_31 : decode cX8_porter 31 = .ok (.aaload, 1) := by decide +kernel
theorem dX8_porter_32 : decode cX8_porter 32 = .ok (.astore_n 3, 1) := by decide +kernel
theorem dX8_porter_33 : decode cX8_porter 33 = .ok (.aload_n 0, 1) := by decide +kernel
theorem dX8_porter_34 : decode cX8_porter 34 = .ok (.iload_n 2, 1) := by decide +kernel
theorem dX8_porter_35 : decode cX8_porter 35 = .ok (.ifCond .ne 10, 3) := by decide +kernel
theorem dX8_porter_38 : decode cX8_porter 38 = .ok (.aload_n 3, 1) := by decide +kernel
theorem dX8_porter_39 : decode cX8_porter 39 = .ok (.getfield 273, 3) := by decide +kernel
theorem dX8_porter_42 : decode cX8_porter 42 = .ok (.goto 19, 3) := by decide +kernel
theorem dX8_porter_45 : decode cX8_porter 45 = .ok (.iload_n 2, 1) := by decide +kernel
theorem dX8_porter_46 : decode cX8_porter 46 = .ok (.iconst 1, 1) := by decide +kernel
theorem dX8_porter_47 : decode cX8_porter 47 = .ok (.if_icmp .ne 10, 3) := by decide +kernel
theorem dX8_porter_50 : decode cX8_porter 50 = .ok (.aload_n 3, 1) := by decide +kernel
theorem dX8_porter_51 : decode cX8_porter 51 = .ok (.getfield 276, 3) := by decide +kernel
theorem dX8_porter_54 : decode cX8_porter 54 = .ok (.goto 7, 3) := by decide +kernel
theorem dX8_porter_57 : decode cX8_porter 57 = .ok (.aload_n 3, 1) := by decide +kernel
theorem dX8_porter_58 : decode cX8_porter 58 = .ok (.getfield 279, 3) := by decide +kernel
theorem dX8_porter_61 : decode cX8_porter 61 = .ok (.invokevirtual 112, 3) := by decide +kernel
theorem dX8_porter_64 : decode cX8_porter 64 = .ok (.ireturn, 1) := by decide +kernel
theorem dX8_boxOf_0 : decode cX8_boxOf 0 = .ok (.aload_n 0, 1) := by decide +kernel
theorem dX8_boxOf_1 : decode cX8_boxOf 1 = .ok (.iload_n 1, 1) := by decide +kernel
theorem dX8_boxOf_2 : decode cX8_boxOf 2 = .ok (.invokevirtual 135, 3) := by decide +kernel
theorem dX8_boxOf_5 : decode cX8_boxOf 5 = .ok (.ifCond .ne 9, 3) := by decide +kernel
theorem dX8_boxOf_8 : decode cX8_boxOf 8 = .ok (.aload_n 0, 1) := by decide +kernel
theorem dX8_boxOf_9 : decode cX8_boxOf 9 = .ok (.iconst 1, 1) := by decide +kernel
theorem dX8_boxOf_10 : decode cX8_boxOf 10 = .ok (.invokevirtual 95, 3) := by decide +kernel
theorem dX8_boxOf_13 : decode cX8_boxOf 13 = .ok (.ireturn, 1) := by decide +kernel
theorem dX8_boxOf_14 : decode cX8_boxOf 14 = .ok (.aload_n 0, 1) := by decide +kernel
theorem dX8_boxOf_15 : decode cX8_boxOf 15 = .ok (.iload_n 2, 1) := by decide +kernel
theorem dX8_boxOf_16 : decode cX8_boxOf 16 = .ok (.ifCond .eq 15, 3) := by decide +kernel
theorem dX8_boxOf_19 : decode cX8_boxOf 19 = .ok (.aload_n 0, 1) := by decide +kernel
theorem dX8_boxOf_20 : decode cX8_boxOf 20 = .ok (.getfield 28, 3) := by decide +kernel
theorem dX8_boxOf_23 : decode cX8_boxOf 23 = .ok (.getfield 282, 3) := by decide +kernel
theorem dX8_boxOf_26 : decode cX8_boxOf 26 = .ok (.iload_n 1, 1) := by decide +kernel
theorem dX8_boxOf_27 : decode cX8_boxOf 27 = .ok (.iaload, 1) := by decide +kernel
theorem dX8_boxOf_28 : decode cX8_boxOf 28 = .ok (.goto 12, 3) := by decide +kernel
theorem dX8_boxOf_31 : decode cX8_boxOf 31 = .ok (.aload_n 0, 1) := by decide +kernel
theorem dX8_boxOf_32 : decode cX8_boxOf 32 = .ok (.getfield 28, 3) := by decide +kernel
theorem dX8_boxOf_35 : decode cX8_boxOf 35 = .ok (.getfield 285, 3) := by decide +kernel
theorem dX8_boxOf_38 : decode cX8_boxOf 38 = .ok (.iload_n 1, 1) := by decide +kernel
theorem dX8_boxOf_39 : decode cX8_boxOf 39 = .ok (.iaload, 1) := by decide +kernel
theorem dX8_boxOf_40 : decode cX8_boxOf 40 = .ok (.invokevirtual 112, 3) := by decide +kernel
theorem dX8_boxOf_43 : decode cX8_boxOf 43 = .ok (.ireturn, 1) := by decide +kernel
theorem dX8_led_0 : decode cX8_led 0 = .ok (.iconst 0, 1) := by decide +kernel
theorem dX8_led_1 : decode cX8_led 1 = .ok (.istore_n 2, 1) := by decide +kernel
theorem dX8_led_2 : decode cX8_led 2 = .ok (.iconst 0, 1) := by decide +kernel
theorem dX8_led_3 : decode cX8_led 3 = .ok (.istore_n 3, 1) := by decide +kernel
theorem dX8_led_4 : decode cX8_led 4 = .ok (.iload_n 3, 1) := by decide +kernel
theorem dX8_led_5 : decode cX8_led 5 = .ok (.aload_n 0, 1) := by decide +kernel
theorem dX8_led_6 : decode cX8_led 6 = .ok (.getfield 28, 3) := by decide +kernel
theorem dX8_led_9 : decode cX8_led 9 = .ok (.getfield 288, 3) := by decide +kernel
theorem dX8_led_12 : decode cX8_led 12 = .ok (.if_icmp .ge 31, 3) := by decide +kernel
theorem dX8_led_15 : decode cX8_led 15 = .ok (.aload_n 0, 1) := by decide +kernel
theorem dX8_led_16 : decode cX8_led 16 = .ok (.getfield 73, 3) := by decide +kernel
theorem dX8_led_19 : decode cX8_led 19 = .ok (.getfield 244, 3) := by decide +kernel
theorem dX8_led_22 : decode cX8_led 22 = .ok (.iload_n 3, 1) := by decide +kernel
theorem dX8_led_23 : decode cX8_led 23 = .ok (.iaload, 1) := by decide +kernel
theorem dX8_led_24 : decode cX8_led 24 = .ok (.ifCond .ne 13, 3) := by decide +kernel
theorem dX8_led_27 : decode cX8_led 27 = .ok (.iload_n 2, 1) := by decide +kernel
theorem dX8_led_28 : decode cX8_led 28 = .ok (.iload_n 1, 1) := by decide +kernel
theorem dX8_led_29 : decode cX8_led 29 = .ok (.if_icmp .ne 5, 3) := by decide +kernel
theorem dX8_led_32 : decode cX8_led 32 = .ok (.iload_n 3, 1) := by decide +kernel
theorem dX8_led_33 : decode cX8_led 33 = .ok (.ireturn, 1) := by decide +kernel
theorem dX8_led_34 : decode cX8_led 34 = .ok (.iinc 2 1, 3) := by decide +kernel
theorem dX8_led_37 : decode cX8_led 37 = .ok (.iinc 3 1, 3) := by decide +kernel
theorem dX8_led_40 : decode cX8_led 40 = .ok (.goto (-36), 3) := by decide +kernel
theorem dX8_led_43 : decode cX8_led 43 = .ok (.new 291, 3) := by decide +kernel
theorem dX8_led_46 : decode cX8_led 46 = .ok (.dup, 1) := by decide +kernel
theorem dX8_led_47 : decode cX8_led 47 = .ok (.invokespecial 293, 3) := by decide +kernel
theorem dX8_led_50 : decode cX8_led 50 = .ok (.athrow, 1) := by decide +kernel
theorem dX8_size_0 : decode cX8_size 0 = .ok (.iload_n 1, 1) := by decide +kernel
theorem dX8_size_1 : decode cX8_size 1 = .ok (.tableswitch 132 0 9 #[55, 63, 71, 79, 87, 95, 103, 111, 119, 124], 55) := by decide +kernel
theorem dX8_size_56 : decode cX8_size 56 = .ok (.aload_n 0, 1) := by decide +kernel
theorem dX8_size_57 : decode cX8_size 57 = .ok (.getfield 28, 3) := by decide +kernel
theorem dX8_size_60 : decode cX8_size 60 = .ok (.getfield 288, 3) := by decide +kernel
theorem dX8_size_63 : decode cX8_size 63 = .ok (.ireturn, 1) := by decide +kernel
theorem dX8_size_64 : decode cX8_size 64 = .ok (.aload_n 0, 1) := by decide +kernel
theorem dX8_size_65 : decode cX8_size 65 = .ok (.getfield 28, 3) := by decide +kernel
theorem dX8_size_68 : decode cX8_size 68 = .ok (.getfield 157, 3) := by decide +kernel
theorem dX8_size_71 : decode cX8_size 71 = .ok (.ireturn, 1) := by decide +kernel
theorem dX8_size_72 : decode cX8_size 72 = .ok (.aload_n 0, 1) := by decide +kernel
theorem dX8_size_73 : decode cX8_size 73 = .ok (.getfield 28, 3) := by decide +kernel
theorem dX8_size_76 : decode cX8_size 76 = .ok (.getfield 109, 3) := by decide +kernel
theorem dX8_size_79 : decode cX8_size 79 = .ok (.ireturn, 1) := by decide +kernel
theorem dX8_size_80 : decode cX8_size 80 = .ok (.aload_n 0, 1) := by decide +kernel
theorem dX8_size_81 : decode cX8_size 81 = .ok (.getfield 28, 3) := by decide +kernel
theorem dX8_size_84 : decode cX8_size 84 = .ok (.getfield 154, 3) := by decide +kernel
theorem dX8_size_87 : decode cX8_size 87 = .ok (.ireturn, 1) := by decide +kernel
theorem dX8_size_88 : decode cX8_size 88 = .ok (.aload_n 0, 1) := by decide +kernel
theorem dX8_size_89 : decode cX8_size 89 = .ok (.getfield 73, 3) := by decide +kernel
theorem dX8_size_92 : decode cX8_size 92 = .ok (.getfield 225, 3) := by decide +kernel
theorem dX8_size_95 : decode cX8_size 95 = .ok (.ireturn, 1) := by decide +kernel
theorem dX8_size_96 : decode cX8_size 96 = .ok (.aload_n 0, 1) := by decide +kernel
theorem dX8_size_97 : decode cX8_size 97 = .ok (.getfield 73, 3) := by decide +kernel
theorem dX8_size_100 : decode cX8_size 100 = .ok (.getfield 220, 3) := by decide +kernel
theorem dX8_size_103 : decode cX8_size 103 = .ok (.ireturn, 1) := by decide +kernel
theorem dX8_size_104 : decode cX8_size 104 = .ok (.aload_n 0, 1) := by decide +kernel
theorem dX8_size_105 : decode cX8_size 105 = .ok (.getfield 73, 3) := by decide +kernel
theorem dX8_size_108 : decode cX8_size 108 = .ok (.getfield 294, 3) := by decide +kernel
theorem dX8_size_111 : decode cX8_size 111 = .ok (.ireturn, 1) := by decide +kernel
theorem dX8_size_112 : decode cX8_size 112 = .ok (.aload_n 0, 1) := by decide +kernel
theorem dX8_size_113 : decode cX8_size 113 = .ok (.getfield 73, 3) := by decide +kernel
theorem dX8_size_116 : decode cX8_size 116 = .ok (.getfield 297, 3) := by decide +kernel
theorem dX8_size_119 : decode cX8_size 119 = .ok (.ireturn, 1) := by decide +kernel
theorem dX8_size_120 : decode cX8_size 120 = .ok (.aload_n 0, 1) := by decide +kernel
theorem dX8_size_121 : decode cX8_size 121 = .ok (.getfield 81, 3) := by decide +kernel
theorem dX8_size_124 : decode cX8_size 124 = .ok (.ireturn, 1) := by decide +kernel
theorem dX8_size_125 : decode cX8_size 125 = .ok (.aload_n 0, 1) := by decide +kernel
theorem dX8_size_126 : decode cX8_size 126 = .ok (.getfield 12, 3) := by decide +kernel
theorem dX8_size_129 : decode cX8_size 129 = .ok (.getfield 88, 3) := by decide +kernel
theorem dX8_size_132 : decode cX8_size 132 = .ok (.ireturn, 1) := by decide +kernel
theorem dX8_size_133 : decode cX8_size 133 = .ok (.iconst (-1), 1) := by decide +kernel
theorem dX8_size_134 : decode cX8_size 134 = .ok (.ireturn, 1) := by decide +kernel
theorem dX8_trouble_0 : decode cX8_trouble 0 = .ok (.aload_n 0, 1) := by decide +kernel
theorem dX8_trouble_1 : decode cX8_trouble 1 = .ok (.getfield 85, 3) := by decide +kernel
theorem dX8_trouble_4 : decode cX8_trouble 4 = .ok (.ireturn, 1) := by decide +kernel
theorem dX8_refuse_0 : decode cX8_refuse 0 = .ok (.aload_n 0, 1) := by decide +kernel
theorem dX8_refuse_1 : decode cX8_refuse 1 = .ok (.iload_n 1, 1) := by decide +kernel
theorem dX8_refuse_2 : decode cX8_refuse 2 = .ok (.putfield 85, 3) := by decide +kernel
theorem dX8_refuse_5 : decode cX8_refuse 5 = .ok (.iconst (-1), 1) := by decide +kernel
theorem dX8_refuse_6 : decode cX8_refuse 6 = .ok (.ireturn, 1) := by decide +kernel
theorem dX8_fine_0 : decode cX8_fine 0 = .ok (.aload_n 0, 1) := by decide +kernel
theorem dX8_fine_1 : decode cX8_fine 1 = .ok (.iconst 0, 1) := by decide +kernel
theorem dX8_fine_2 : decode cX8_fine 2 = .ok (.putfield 85, 3) := by decide +kernel
theorem dX8_fine_5 : decode cX8_fine 5 = .ok (.iload_n 1, 1) := by decide +kernel
theorem dX8_fine_6 : decode cX8_fine 6 = .ok (.ireturn, 1) := by decide +kernel
theorem dX8_isPorter_0 : decode cX8_isPorter 0 = .ok (.iload_n 1, 1) := by decide +kernel
theorem dX8_isPorter_1 : decode cX8_isPorter 1 = .ok (.ifCond .lt 18, 3) := by decide +kernel
theorem dX8_isPorter_4 : decode cX8_isPorter 4 = .ok (.iload_n 1, 1) := by decide +kernel
theorem dX8_isPorter_5 : decode cX8_isPorter 5 = .ok (.aload_n 0, 1) := by decide +kernel
theorem dX8_isPorter_6 : decode cX8_isPorter 6 = .ok (.getfield 28, 3) := by decide +kernel
theorem dX8_isPorter_9 : decode cX8_isPorter 9 = .ok (.getfield 109, 3) := by decide +kernel
theorem dX8_isPorter_12 : decode cX8_isPorter 12 = .ok (.if_icmp .ge 7, 3) := by decide +kernel
theorem dX8_isPorter_15 : decode cX8_isPorter 15 = .ok (.iconst 1, 1) := by decide +kernel
theorem dX8_isPorter_16 : decode cX8_isPorter 16 = .ok (.goto 4, 3) := by decide +kernel
theorem dX8_isPorter_19 : decode cX8_isPorter 19 = .ok (.iconst 0, 1) := by decide +kernel
theorem dX8_isPorter_20 : decode cX8_isPorter 20 = .ok (.ireturn, 1) := by decide +kernel
theorem dX8_isBox_0 : decode cX8_isBox 0 = .ok (.iload_n 1, 1) := by decide +kernel
theorem dX8_isBox_1 : decode cX8_isBox 1 = .ok (.ifCond .lt 18, 3) := by decide +kernel
theorem dX8_isBox_4 : decode cX8_isBox 4 = .ok (.iload_n 1, 1) := by decide +kernel
theorem dX8_isBox_5 : decode cX8_isBox 5 = .ok (.aload_n 0, 1) := by decide +kernel
theorem dX8_isBox_6 : decode cX8_isBox 6 = .ok (.getfield 28, 3) := by decide +kernel
theorem dX8_isBox_9 : decode cX8_isBox 9 = .ok (.getfield 288, 3) := by decide +kernel
theorem dX8_isBox_12 : decode cX8_isBox 12 = .ok (.if_icmp .ge 7, 3) := by decide +kernel
theorem dX8_isBox_15 : decode cX8_isBox 15 = .ok (.iconst 1, 1) := by decide +kernel
theorem dX8_isBox_16 : decode cX8_isBox 16 = .ok (.goto 4, 3) := by decide +kernel
theorem dX8_isBox_19 : decode cX8_isBox 19 = .ok (.iconst 0, 1) := by decide +kernel
theorem dX8_isBox_20 : decode cX8_isBox 20 = .ok (.ireturn, 1) := by decide +kernel
theorem dX8_isCount_0 : decode cX8_isCount 0 = .ok (.iload_n 1, 1) := by decide +kernel
theorem dX8_isCount_1 : decode cX8_isCount 1 = .ok (.ifCond .lt 18, 3) := by decide +kernel
theorem dX8_isCount_4 : decode cX8_isCount 4 = .ok (.iload_n 1, 1) := by decide +kernel
theorem dX8_isCount_5 : decode cX8_isCount 5 = .ok (.aload_n 0, 1) := by decide +kernel
theorem dX8_isCount_6 : decode cX8_isCount 6 = .ok (.getfield 28, 3) := by decide +kernel
theorem dX8_isCount_9 : decode cX8_isCount 9 = .ok (.getfield 157, 3) := by decide +kernel
theorem dX8_isCount_12 : decode cX8_isCount 12 = .ok (.if_icmp .gt 7, 3) := by decide +kernel
theorem dX8_isCount_15 : decode cX8_isCount 15 = .ok (.iconst 1, 1) := by decide +kernel
theorem dX8_isCount_16 : decode cX8_isCount 16 = .ok (.goto 4, 3) := by decide +kernel
theorem dX8_isCount_19 : decode cX8_isCount 19 = .ok (.iconst 0, 1) := by decide +kernel
theorem dX8_isCount_20 : decode cX8_isCount 20 = .ok (.ireturn, 1) := by decide +kernel
theorem dX8_isFullest_0 : decode cX8_isFullest 0 = .ok (.iload_n 0, 1) := by decide +kernel
theorem dX8_isFullest_1 : decode cX8_isFullest 1 = .ok (.ifCond .lt 13, 3) := by decide +kernel
theorem dX8_isFullest_4 : decode cX8_isFullest 4 = .ok (.iload_n 0, 1) := by decide +kernel
theorem dX8_isFullest_5 : decode cX8_isFullest 5 = .ok (.bipush 9, 2) := by decide +kernel
theorem dX8_isFullest_7 : decode cX8_isFullest 7 = .ok (.if_icmp .gt 7, 3) := by decide +kernel
theorem dX8_isFullest_10 : decode cX8_isFullest 10 = .ok (.iconst 1, 1) := by decide +kernel
theorem dX8_isFullest_11 : decode cX8_isFullest 11 = .ok (.goto 4, 3) := by decide +kernel
theorem dX8_isFullest_14 : decode cX8_isFullest 14 = .ok (.iconst 0, 1) := by decide +kernel
theorem dX8_isFullest_15 : decode cX8_isFullest 15 = .ok (.ireturn, 1) := by decide +kernel
theorem dX8_isTooMany_0 : decode cX8_isTooMany 0 = .ok (.aload_n 0, 1) := by decide +kernel
theorem dX8_isTooMany_1 : decode cX8_isTooMany 1 = .ok (.getfield 28, 3) := by decide +kernel
theorem dX8_isTooMany_4 : decode cX8_isTooMany 4 = .ok (.aload_n 0, 1) := by decide +kernel
theorem dX8_isTooMany_5 : decode cX8_isTooMany 5 = .ok (.getfield 28, 3) := by decide +kernel
theorem dX8_isTooMany_8 : decode cX8_isTooMany 8 = .ok (.getfield 221, 3) := by decide +kernel
theorem dX8_isTooMany_11 : decode cX8_isTooMany 11 = .ok (.iload_n 1, 1) := by decide +kernel
theorem dX8_isTooMany_12 : decode cX8_isTooMany 12 = .ok (.aaload, 1) := by decide +kernel
theorem dX8_isTooMany_13 : decode cX8_isTooMany 13 = .ok (.iload_n 2, 1) := by decide +kernel
theorem dX8_isTooMany_14 : decode cX8_isTooMany 14 = .ok (.invokevirtual 300, 3) := by decide +kernel
theorem dX8_isTooMany_17 : decode cX8_isTooMany 17 = .ok (.ireturn, 1) := by decide +kernel
theorem dX8_isRefused_0 : decode cX8_isRefused 0 = .ok (.aload_n 0, 1) := by decide +kernel
theorem dX8_isRefused_1 : decode cX8_isRefused 1 = .ok (.aload_n 0, 1) := by decide +kernel
theorem dX8_isRefused_2 : decode cX8_isRefused 2 = .ok (.iload_n 1, 1) := by decide +kernel
theorem dX8_isRefused_3 : decode cX8_isRefused 3 = .ok (.invokevirtual 121, 3) := by decide +kernel
theorem dX8_isRefused_6 : decode cX8_isRefused 6 = .ok (.ifCond .ne 7, 3) := by decide +kernel
theorem dX8_isRefused_9 : decode cX8_isRefused 9 = .ok (.iconst 1, 1) := by decide +kernel
theorem dX8_isRefused_10 : decode cX8_isRefused 10 = .ok (.goto 29, 3) := by decide +kernel
theorem dX8_isRefused_13 : decode cX8_isRefused 13 = .ok (.aload_n 0, 1) := by decide +kernel
theorem dX8_isRefused_14 : decode cX8_isRefused 14 = .ok (.iload_n 2, 1) := by decide +kernel
theorem dX8_isRefused_15 : decode cX8_isRefused 15 = .ok (.invokevirtual 125, 3) := by decide +kernel
theorem dX8_isRefused_18 : decode cX8_isRefused 18 = .ok (.ifCond .ne 7, 3) := by decide +kernel
theorem dX8_isRefused_21 : decode cX8_isRefused 21 = .ok (.iconst 2, 1) := by decide +kernel
theorem dX8_isRefused_22 : decode cX8_isRefused 22 = .ok (.goto 17, 3) := by decide +kernel
theorem dX8_isRefused_25 : decode cX8_isRefused 25 = .ok (.aload_n 0, 1) := by decide +kernel
theorem dX8_isRefused_26 : decode cX8_isRefused 26 = .ok (.iload_n 1, 1) := by decide +kernel
theorem dX8_isRefused_27 : decode cX8_isRefused 27 = .ok (.iload_n 2, 1) := by decide +kernel
theorem dX8_isRefused_28 : decode cX8_isRefused 28 = .ok (.invokevirtual 168, 3) := by decide +kernel
theorem dX8_isRefused_31 : decode cX8_isRefused 31 = .ok (.ifCond .eq 7, 3) := by decide +kernel
theorem dX8_isRefused_34 : decode cX8_isRefused 34 = .ok (.iconst 3, 1) := by decide +kernel
theorem dX8_isRefused_35 : decode cX8_isRefused 35 = .ok (.goto 4, 3) := by decide +kernel
theorem dX8_isRefused_38 : decode cX8_isRefused 38 = .ok (.iconst 0, 1) := by decide +kernel
theorem dX8_isRefused_39 : decode cX8_isRefused 39 = .ok (.putfield 85, 3) := by decide +kernel
theorem dX8_isRefused_42 : decode cX8_isRefused 42 = .ok (.aload_n 0, 1) := by decide +kernel
theorem dX8_isRefused_43 : decode cX8_isRefused 43 = .ok (.getfield 85, 3) := by decide +kernel
theorem dX8_isRefused_46 : decode cX8_isRefused 46 = .ok (.ifCond .eq 7, 3) := by decide +kernel
theorem dX8_isRefused_49 : decode cX8_isRefused 49 = .ok (.iconst 1, 1) := by decide +kernel
theorem dX8_isRefused_50 : decode cX8_isRefused 50 = .ok (.goto 4, 3) := by decide +kernel
theorem dX8_isRefused_53 : decode cX8_isRefused 53 = .ok (.iconst 0, 1) := by decide +kernel
theorem dX8_isRefused_54 : decode cX8_isRefused 54 = .ok (.ireturn, 1) := by decide +kernel
theorem dX8_isBestRefused_0 : decode cX8_isBestRefused 0 = .ok (.iload_n 1, 1) := by decide +kernel
theorem dX8_isBestRefused_1 : decode cX8_isBestRefused 1 = .ok (.iconst 1, 1) := by decide +kernel
theorem dX8_isBestRefused_2 : decode cX8_isBestRefused 2 = .ok (.if_icmp .lt 27, 3) := by decide +kernel
theorem dX8_isBestRefused_5 : decode cX8_isBestRefused 5 = .ok (.iload_n 1, 1) := by decide +kernel
theorem dX8_isBestRefused_6 : decode cX8_isBestRefused 6 = .ok (.iconst 3, 1) := by decide +kernel
theorem dX8_isBestRefused_7 : decode cX8_isBestRefused 7 = .ok (.if_icmp .gt 22, 3) := by decide +kernel
theorem dX8_isBestRefused_10 : decode cX8_isBestRefused 10 = .ok (.aload_n 0, 1) := by decide +kernel
theorem dX8_isBestRefused_11 : decode cX8_isBestRefused 11 = .ok (.iload_n 2, 1) := by decide +kernel
theorem dX8_isBestRefused_12 : decode cX8_isBestRefused 12 = .ok (.invokevirtual 125, 3) := by decide +kernel
theorem dX8_isBestRefused_15 : decode cX8_isBestRefused 15 = .ok (.ifCond .eq 14, 3) := by decide +kernel
theorem dX8_isBestRefused_18 : decode cX8_isBestRefused 18 = .ok (.iload_n 3, 1) := by decide +kernel
theorem dX8_isBestRefused_19 : decode cX8_isBestRefused 19 = .ok (.invokestatic 128, 3) := by decide +kernel
theorem dX8_isBestRefused_22 : decode cX8_isBestRefused 22 = .ok (.ifCond .eq 7, 3) := by decide +kernel
theorem dX8_isBestRefused_25 : decode cX8_isBestRefused 25 = .ok (.iconst 1, 1) := by decide +kernel
theorem dX8_isBestRefused_26 : decode cX8_isBestRefused 26 = .ok (.goto 4, 3) := by decide +kernel
theorem dX8_isBestRefused_29 : decode cX8_isBestRefused 29 = .ok (.iconst 0, 1) := by decide +kernel
theorem dX8_isBestRefused_30 : decode cX8_isBestRefused 30 = .ok (.istore 4, 2) := by decide +kernel
theorem dX8_isBestRefused_32 : decode cX8_isBestRefused 32 = .ok (.aload_n 0, 1) := by decide +kernel
theorem dX8_isBestRefused_33 : decode cX8_isBestRefused 33 = .ok (.getfield 56, 3) := by decide +kernel
theorem dX8_isBestRefused_36 : decode cX8_isBestRefused 36 = .ok (.iload_n 1, 1) := by decide +kernel
theorem dX8_isBestRefused_37 : decode cX8_isBestRefused 37 = .ok (.iconst 2, 1) := by decide +kernel
theorem dX8_isBestRefused_38 : decode cX8_isBestRefused 38 = .ok (.iconst 0, 1) := by decide +kernel
theorem dX8_isBestRefused_39 : decode cX8_isBestRefused 39 = .ok (.invokevirtual 190, 3) := by decide +kernel
theorem dX8_isBestRefused_42 : decode cX8_isBestRefused 42 = .ok (.aload_n 0, 1) := by decide +kernel
theorem dX8_isBestRefused_43 : decode cX8_isBestRefused 43 = .ok (.aload_n 0, 1) := by decide +kernel
theorem dX8_isBestRefused_44 : decode cX8_isBestRefused 44 = .ok (.getfield 28, 3) := by decide +kernel
theorem dX8_isBestRefused_47 : decode cX8_isBestRefused 47 = .ok (.getfield 186, 3) := by decide +kernel
theorem dX8_isBestRefused_50 : decode cX8_isBestRefused 50 = .ok (.ifCond .ne 7, 3) := by decide +kernel
theorem dX8_isBestRefused_53 : decode cX8_isBestRefused 53 = .ok (.iconst 1, 1) := by decide +kernel
theorem dX8_isBestRefused_54 : decode cX8_isBestRefused 54 = .ok (.goto 32, 3) := by decide +kernel
theorem dX8_isBestRefused_57 : decode cX8_isBestRefused 57 = .ok (.iload 4, 2) := by decide +kernel
theorem dX8_isBestRefused_59 : decode cX8_isBestRefused 59 = .ok (.ifCond .ne 7, 3) := by decide +kernel
theorem dX8_isBestRefused_62 : decode cX8_isBestRefused 62 = .ok (.iconst 2, 1) := by decide +kernel
theorem dX8_isBestRefused_63 : decode cX8_isBestRefused 63 = .ok (.goto 23, 3) := by decide +kernel
theorem dX8_isBestRefused_66 : decode cX8_isBestRefused 66 = .ok (.aload_n 0, 1) := by decide +kernel
theorem dX8_isBestRefused_67 : decode cX8_isBestRefused 67 = .ok (.getfield 28, 3) := by decide +kernel
theorem dX8_isBestRefused_70 : decode cX8_isBestRefused 70 = .ok (.aload_n 0, 1) := by decide +kernel
theorem dX8_isBestRefused_71 : decode cX8_isBestRefused 71 = .ok (.getfield 56, 3) := by decide +kernel
theorem dX8_isBestRefused_74 : decode cX8_isBestRefused 74 = .ok (.iload_n 2, 1) := by decide +kernel
theorem dX8_isBestRefused_75 : decode cX8_isBestRefused 75 = .ok (.invokevirtual 300, 3) := by decide +kernel
theorem dX8_isBestRefused_78 : decode cX8_isBestRefused 78 = .ok (.ifCond .eq 7, 3) := by decide +kernel
theorem dX8_isBestRefused_81 : decode cX8_isBestRefused 81 = .ok (.iconst 3, 1) := by decide +kernel
theorem dX8_isBestRefused_82 : decode cX8_isBestRefused 82 = .ok (.goto 4, 3) := by decide +kernel
theorem dX8_isBestRefused_85 : decode cX8_isBestRefused 85 = .ok (.iconst 0, 1) := by decide +kernel
theorem dX8_isBestRefused_86 : decode cX8_isBestRefused 86 = .ok (.putfield 85, 3) := by decide +kernel
theorem dX8_isBestRefused_89 : decode cX8_isBestRefused 89 = .ok (.aload_n 0, 1) := by decide +kernel
theorem dX8_isBestRefused_90 : decode cX8_isBestRefused 90 = .ok (.getfield 85, 3) := by decide +kernel
theorem dX8_isBestRefused_93 : decode cX8_isBestRefused 93 = .ok (.ifCond .eq 7, 3) := by decide +kernel
theorem dX8_isBestRefused_96 : decode cX8_isBestRefused 96 = .ok (.iconst 1, 1) := by decide +kernel
theorem dX8_isBestRefused_97 : decode cX8_isBestRefused 97 = .ok (.goto 4, 3) := by decide +kernel
theorem dX8_isBestRefused_100 : decode cX8_isBestRefused 100 = .ok (.iconst 0, 1) := by decide +kernel
theorem dX8_isBestRefused_101 : decode cX8_isBestRefused 101 = .ok (.ireturn, 1) := by decide +kernel
theorem dX8_isNextRefused_0 : decode cX8_isNextRefused 0 = .ok (.aload_n 0, 1) := by decide +kernel
theorem dX8_isNextRefused_1 : decode cX8_isNextRefused 1 = .ok (.aload_n 0, 1) := by decide +kernel
theorem dX8_isNextRefused_2 : decode cX8_isNextRefused 2 = .ok (.iload_n 1, 1) := by decide +kernel
theorem dX8_isNextRefused_3 : decode cX8_isNextRefused 3 = .ok (.invokevirtual 135, 3) := by decide +kernel
theorem dX8_isNextRefused_6 : decode cX8_isNextRefused 6 = .ok (.ifCond .ne 7, 3) := by decide +kernel
theorem dX8_isNextRefused_9 : decode cX8_isNextRefused 9 = .ok (.iconst 1, 1) := by decide +kernel
theorem dX8_isNextRefused_10 : decode cX8_isNextRefused 10 = .ok (.goto 26, 3) := by decide +kernel
theorem dX8_isNextRefused_13 : decode cX8_isNextRefused 13 = .ok (.aload_n 0, 1) := by decide +kernel
theorem dX8_isNextRefused_14 : decode cX8_isNextRefused 14 = .ok (.getfield 73, 3) := by decide +kernel
theorem dX8_isNextRefused_17 : decode cX8_isNextRefused 17 = .ok (.getfield 220, 3) := by decide +kernel
theorem dX8_isNextRefused_20 : decode cX8_isNextRefused 20 = .ok (.aload_n 0, 1) := by decide +kernel
theorem dX8_isNextRefused_21 : decode cX8_isNextRefused 21 = .ok (.getfield 28, 3) := by decide +kernel
theorem dX8_isNextRefused_24 : decode cX8_isNextRefused 24 = .ok (.getfield 157, 3) := by decide +kernel
theorem dX8_isNextRefused_27 : decode cX8_isNextRefused 27 = .ok (.if_icmp .lt 8, 3) := by decide +kernel
theorem dX8_isNextRefused_30 : decode cX8_isNextRefused 30 = .ok (.bipush 6, 2) := by decide +kernel
theorem dX8_isNextRefused_32 : decode cX8_isNextRefused 32 = .ok (.goto 4, 3) := by decide +kernel
theorem dX8_isNextRefused_35 : decode cX8_isNextRefused 35 = .ok (.iconst 0, 1) := by decide +kernel
theorem dX8_isNextRefused_36 : decode cX8_isNextRefused 36 = .ok (.putfield 85, 3) := by decide +kernel
theorem dX8_isNextRefused_39 : decode cX8_isNextRefused 39 = .ok (.aload_n 0, 1) := by decide +kernel
theorem dX8_isNextRefused_40 : decode cX8_isNextRefused 40 = .ok (.getfield 85, 3) := by decide +kernel
theorem dX8_isNextRefused_43 : decode cX8_isNextRefused 43 = .ok (.ifCond .eq 7, 3) := by decide +kernel
theorem dX8_isNextRefused_46 : decode cX8_isNextRefused 46 = .ok (.iconst 1, 1) := by decide +kernel
theorem dX8_isNextRefused_47 : decode cX8_isNextRefused 47 = .ok (.goto 4, 3) := by decide +kernel
theorem dX8_isNextRefused_50 : decode cX8_isNextRefused 50 = .ok (.iconst 0, 1) := by decide +kernel
theorem dX8_isNextRefused_51 : decode cX8_isNextRefused 51 = .ok (.ireturn, 1) := by decide +kernel
theorem dX8_ofPorter_0 : decode cX8_ofPorter 0 = .ok (.aload_n 0, 1) := by decide +kernel
theorem dX8_ofPorter_1 : decode cX8_ofPorter 1 = .ok (.getfield 49, 3) := by decide +kernel
theorem dX8_ofPorter_4 : decode cX8_ofPorter 4 = .ok (.iload_n 1, 1) := by decide +kernel
theorem dX8_ofPorter_5 : decode cX8_ofPorter 5 = .ok (.aload_n 0, 1) := by decide +kernel
theorem dX8_ofPorter_6 : decode cX8_ofPorter 6 = .ok (.getfield 28, 3) := by decide +kernel
theorem dX8_ofPorter_9 : decode cX8_ofPorter 9 = .ok (.getfield 221, 3) := by decide +kernel
theorem dX8_ofPorter_12 : decode cX8_ofPorter 12 = .ok (.iload_n 1, 1) := by decide +kernel
theorem dX8_ofPorter_13 : decode cX8_ofPorter 13 = .ok (.aaload, 1) := by decide +kernel
theorem dX8_ofPorter_14 : decode cX8_ofPorter 14 = .ok (.iconst 0, 1) := by decide +kernel
theorem dX8_ofPorter_15 : decode cX8_ofPorter 15 = .ok (.invokevirtual 194, 3) := by decide +kernel
theorem dX8_ofPorter_18 : decode cX8_ofPorter 18 = .ok (.areturn, 1) := by decide +kernel
theorem dX8_ofLazy_0 : decode cX8_ofLazy 0 = .ok (.aload_n 0, 1) := by decide +kernel
theorem dX8_ofLazy_1 : decode cX8_ofLazy 1 = .ok (.getfield 56, 3) := by decide +kernel
theorem dX8_ofLazy_4 : decode cX8_ofLazy 4 = .ok (.iload_n 1, 1) := by decide +kernel
theorem dX8_ofLazy_5 : decode cX8_ofLazy 5 = .ok (.iconst 2, 1) := by decide +kernel
theorem dX8_ofLazy_6 : decode cX8_ofLazy 6 = .ok (.iload_n 2, 1) := by decide +kernel
theorem dX8_ofLazy_7 : decode cX8_ofLazy 7 = .ok (.invokevirtual 190, 3) := by decide +kernel
theorem dX8_ofLazy_10 : decode cX8_ofLazy 10 = .ok (.aload_n 0, 1) := by decide +kernel
theorem dX8_ofLazy_11 : decode cX8_ofLazy 11 = .ok (.getfield 49, 3) := by decide +kernel
theorem dX8_ofLazy_14 : decode cX8_ofLazy 14 = .ok (.bipush 6, 2) := by decide +kernel
theorem dX8_ofLazy_16 : decode cX8_ofLazy 16 = .ok (.iload_n 1, 1) := by decide +kernel
theorem dX8_ofLazy_17 : decode cX8_ofLazy 17 = .ok (.iconst 1, 1) := by decide +kernel
theorem dX8_ofLazy_18 : decode cX8_ofLazy 18 = .ok (.isub, 1) := by decide +kernel
theorem dX8_ofLazy_19 : decode cX8_ofLazy 19 = .ok (.bipush 9, 2) := by decide +kernel
theorem dX8_ofLazy_21 : decode cX8_ofLazy 21 = .ok (.imul, 1) := by decide +kernel
theorem dX8_ofLazy_22 : decode cX8_ofLazy 22 = .ok (.iadd, 1) := by decide +kernel
theorem dX8_ofLazy_23 : decode cX8_ofLazy 23 = .ok (.iload_n 2, 1) := by decide +kernel
theorem dX8_ofLazy_24 : decode cX8_ofLazy 24 = .ok (.iadd, 1) := by decide +kernel
theorem dX8_ofLazy_25 : decode cX8_ofLazy 25 = .ok (.aload_n 0, 1) := by decide +kernel
theorem dX8_ofLazy_26 : decode cX8_ofLazy 26 = .ok (.getfield 56, 3) := by decide +kernel
theorem dX8_ofLazy_29 : decode cX8_ofLazy 29 = .ok (.iconst 0, 1) := by decide +kernel
theorem dX8_ofLazy_30 : decode cX8_ofLazy 30 = .ok (.invokevirtual 194, 3) := by decide +kernel
theorem dX8_ofLazy_33 : decode cX8_ofLazy 33 = .ok (.areturn, 1) := by decide +kernel
theorem dX8_chance_0 : decode cX8_chance 0 = .ok (.aload_n 0, 1) := by decide +kernel
theorem dX8_chance_1 : decode cX8_chance 1 = .ok (.iload_n 1, 1) := by decide +kernel
theorem dX8_chance_2 : decode cX8_chance 2 = .ok (.iload_n 2, 1) := by decide +kernel
theorem dX8_chance_3 : decode cX8_chance 3 = .ok (.invokevirtual 168, 3) := by decide +kernel
theorem dX8_chance_6 : decode cX8_chance 6 = .ok (.ifCond .eq 10, 3) := by decide +kernel
theorem dX8_chance_9 : decode cX8_chance 9 = .ok (.aload_n 0, 1) := by decide +kernel
theorem dX8_chance_10 : decode cX8_chance 10 = .ok (.iconst 3, 1) := by decide +kernel
theorem dX8_chance_11 : decode cX8_chance 11 = .ok (.invokevirtual 95, 3) := by decide +kernel
theorem dX8_chance_14 : decode cX8_chance 14 = .ok (.i2l, 1) := by decide +kernel
theorem dX8_chance_15 : decode cX8_chance 15 = .ok (.lreturn, 1) := by decide +kernel
theorem dX8_chance_16 : decode cX8_chance 16 = .ok (.aload_n 0, 1) := by decide +kernel
theorem dX8_chance_17 : decode cX8_chance 17 = .ok (.getfield 49, 3) := by decide +kernel
theorem dX8_chance_20 : decode cX8_chance 20 = .ok (.aload_n 0, 1) := by decide +kernel
theorem dX8_chance_21 : decode cX8_chance 21 = .ok (.getfield 49, 3) := by decide +kernel
theorem dX8_chance_24 : decode cX8_chance 24 = .ok (.iload_n 1, 1) := by decide +kernel
theorem dX8_chance_25 : decode cX8_chance 25 = .ok (.aload_n 0, 1) := by decide +kernel
theorem dX8_chance_26 : decode cX8_chance 26 = .ok (.getfield 28, 3) := by decide +kernel
theorem dX8_chance_29 : decode cX8_chance 29 = .ok (.getfield 221, 3) := by decide +kernel
theorem dX8_chance_32 : decode cX8_chance 32 = .ok (.iload_n 1, 1) := by decide +kernel
theorem dX8_chance_33 : decode cX8_chance 33 = .ok (.aaload, 1) := by decide +kernel
theorem dX8_chance_34 : decode cX8_chance 34 = .ok (.iconst 0, 1) := by decide +kernel
theorem dX8_chance_35 : decode cX8_chance 35 = .ok (.invokevirtual 194, 3) := by decide +kernel
theorem dX8_chance_38 : decode cX8_chance 38 = .ok (.iload_n 2, 1) := by decide +kernel
theorem dX8_chance_39 : decode cX8_chance 39 = .ok (.iload_n 3, 1) := by decide +kernel
theorem dX8_chance_40 : decode cX8_chance 40 = .ok (.iload 4, 2) := by decide +kernel
theorem dX8_chance_42 : decode cX8_chance 42 = .ok (.iload 5, 2) := by decide +kernel
theorem dX8_chance_44 : decode cX8_chance 44 = .ok (.invokevirtual 171, 3) := by decide +kernel
theorem dX8_chance_47 : decode cX8_chance 47 = .ok (.aload_n 0, 1) := by decide +kernel
theorem dX8_chance_48 : decode cX8_chance 48 = .ok (.aload_n 0, 1) := by decide +kernel
theorem dX8_chance_49 : decode cX8_chance 49 = .ok (.getfield 49, 3) := by decide +kernel
theorem dX8_chance_52 : decode cX8_chance 52 = .ok (.getfield 175, 3) := by decide +kernel
theorem dX8_chance_55 : decode cX8_chance 55 = .ok (.aload_n 0, 1) := by decide +kernel
theorem dX8_chance_56 : decode cX8_chance 56 = .ok (.getfield 49, 3) := by decide +kernel
theorem dX8_chance_59 : decode cX8_chance 59 = .ok (.getfield 179, 3) := by decide +kernel
theorem dX8_chance_62 : decode cX8_chance 62 = .ok (.iload 6, 2) := by decide +kernel
theorem dX8_chance_64 : decode cX8_chance 64 = .ok (.invokevirtual 212, 3) := by decide +kernel
theorem dX8_chance_67 : decode cX8_chance 67 = .ok (.lreturn, 1) := by decide +kernel
theorem dX8_told_0 : decode cX8_told 0 = .ok (.aload_n 0, 1) := by decide +kernel
theorem dX8_told_1 : decode cX8_told 1 = .ok (.iconst 0, 1) := by decide +kernel
theorem dX8_told_2 : decode cX8_told 2 = .ok (.putfield 85, 3) := by decide +kernel
theorem dX8_told_5 : decode cX8_told 5 = .ok (.iload 5, 2) := by decide +kernel
theorem dX8_told_7 : decode cX8_told 7 = .ok (.ifCond .eq 7, 3) := by decide +kernel
theorem dX8_told_10 : decode cX8_told 10 = .ok (.lload_n 3, 1) := by decide +kernel
theorem dX8_told_11 : decode cX8_told 11 = .ok (.goto 4, 3) := by decide +kernel
theorem dX8_told_14 : decode cX8_told 14 = .ok (.lload_n 1, 1) := by decide +kernel
theorem dX8_told_15 : decode cX8_told 15 = .ok (.lstore 6, 2) := by decide +kernel
theorem dX8_told_17 : decode cX8_told 17 = .ok (.lload_n 1, 1) := by decide +kernel
theorem dX8_told_18 : decode cX8_told 18 = .ok (.lload_n 3, 1) := by decide +kernel
theorem dX8_told_19 : decode cX8_told 19 = .ok (.invokestatic 304, 3) := by decide +kernel
theorem dX8_told_22 : decode cX8_told 22 = .ok (.lstore 8, 2) := by decide +kernel
theorem dX8_told_24 : decode cX8_told 24 = .ok (.lload 8, 2) := by decide +kernel
theorem dX8_told_26 : decode cX8_told 26 = .ok (.lconst 1, 1) := by decide +kernel
theorem dX8_told_27 : decode cX8_told 27 = .ok (.lcmp, 1) := by decide +kernel
theorem dX8_told_28 : decode cX8_told 28 = .ok (.ifCond .le 11, 3) := by decide +kernel
theorem dX8_told_31 : decode cX8_told 31 = .ok (.lload 6, 2) := by decide +kernel
theorem dX8_told_33 : decode cX8_told 33 = .ok (.lload 8, 2) := by decide +kernel
theorem dX8_told_35 : decode cX8_told 35 = .ok (.ldiv, 1) := by decide +kernel
theorem dX8_told_36 : decode cX8_told 36 = .ok (.goto 5, 3) := by decide +kernel
theorem dX8_told_39 : decode cX8_told 39 = .ok (.lload 6, 2) := by decide +kernel
theorem dX8_told_41 : decode cX8_told 41 = .ok (.lreturn, 1) := by decide +kernel
theorem dX8_common_0 : decode cX8_common 0 = .ok (.lload_n 0, 1) := by decide +kernel
theorem dX8_common_1 : decode cX8_common 1 = .ok (.lstore 4, 2) := by decide +kernel
theorem dX8_common_3 : decode cX8_common 3 = .ok (.lload_n 2, 1) := by decide +kernel
theorem dX8_common_4 : decode cX8_common 4 = .ok (.lstore 6, 2) := by decide +kernel
theorem dX8_common_6 : decode cX8_common 6 = .ok (.iconst 0, 1) := by decide +kernel
theorem dX8_common_7 : decode cX8_common 7 = .ok (.istore 8, 2) := by decide +kernel
theorem dX8_common_9 : decode cX8_common 9 = .ok (.iload 8, 2) := by decide +kernel
theorem dX8_common_11 : decode cX8_common 11 = .ok (.sipush 200, 3) := by decide +kernel
theorem dX8_common_14 : decode cX8_common 14 = .ok (.if_icmp .ge 31, 3) := by decide +kernel
theorem dX8_common_17 : decode cX8_common 17 = .ok (.lload 6, 2) := by decide +kernel
theorem dX8_common_19 : decode cX8_common 19 = .ok (.lconst 0, 1) := by decide +kernel
theorem dX8_common_20 : decode cX8_common 20 = .ok (.lcmp, 1) := by decide +kernel
theorem dX8_common_21 : decode cX8_common 21 = .ok (.ifCond .le 24, 3) := by decide +kernel
theorem dX8_common_24 : decode cX8_common 24 = .ok (.lload 4, 2) := by decide +kernel
theorem dX8_common_26 : decode cX8_common 26 = .ok (.lload 6, 2) := by decide +kernel
theorem dX8_common_28 : decode cX8_common 28 = .ok (.lrem, 1) := by decide +kernel
theorem dX8_common_29 : decode cX8_common 29 = .ok (.lstore 9, 2) := by decide +kernel
theorem dX8_common_31 : decode cX8_common 31 = .ok (.lload 6, 2) := by decide +kernel
theorem dX8_common_33 : decode cX8_common 33 = .ok (.lstore 4, 2) := by decide +kernel
theorem dX8_common_35 : decode cX8_common 35 = .ok (.lload 9, 2) := by decide +kernel
theorem dX8_common_37 : decode cX8_common 37 = .ok (.lstore 6, 2) := by decide +kernel
theorem dX8_common_39 : decode cX8_common 39 = .ok (.iinc 8 1, 3) := by decide +kernel
theorem dX8_common_42 : decode cX8_common 42 = .ok (.goto (-33), 3) := by decide +kernel
theorem dX8_common_45 : decode cX8_common 45 = .ok (.lload 4, 2) := by decide +kernel
theorem dX8_common_47 : decode cX8_common 47 = .ok (.lreturn, 1) := by decide +kernel
theorem dX8_times_0 : decode cX8_times 0 = .ok (.lload_n 0, 1) := by decide +kernel
theorem dX8_times_1 : decode cX8_times 1 = .ok (.lconst 0, 1) := by decide +kernel
theorem dX8_times_2 : decode cX8_times 2 = .ok (.lcmp, 1) := by decide +kernel
theorem dX8_times_3 : decode cX8_times 3 = .ok (.ifCond .le 15, 3) := by decide +kernel
theorem dX8_times_6 : decode cX8_times 6 = .ok (.lload_n 2, 1) := by decide +kernel
theorem dX8_times_7 : decode cX8_times 7 = .ok (.lload_n 0, 1) := by decide +kernel
theorem dX8_times_8 : decode cX8_times 8 = .ok (.lcmp, 1) := by decide +kernel
theorem dX8_times_9 : decode cX8_times 9 = .ok (.ifCond .le 9, 3) := by decide +kernel
theorem dX8_times_12 : decode cX8_times 12 = .ok (.lload_n 2, 1) := by decide +kernel
theorem dX8_times_13 : decode cX8_times 13 = .ok (.lload_n 0, 1) := by decide +kernel
theorem dX8_times_14 : decode cX8_times 14 = .ok (.ldiv, 1) := by decide +kernel
theorem dX8_times_15 : decode cX8_times 15 = .ok (.goto 4, 3) := by decide +kernel
theorem dX8_times_18 : decode cX8_times 18 = .ok (.lconst 1, 1) := by decide +kernel
theorem dX8_times_19 : decode cX8_times 19 = .ok (.lreturn, 1) := by decide +kernel
theorem dX8_laziest_0 : decode cX8_laziest 0 = .ok (.iconst 0, 1) := by decide +kernel
theorem dX8_laziest_1 : decode cX8_laziest 1 = .ok (.istore 4, 2) := by decide +kernel
theorem dX8_laziest_3 : decode cX8_laziest 3 = .ok (.lconst 0, 1) := by decide +kernel
theorem dX8_laziest_4 : decode cX8_laziest 4 = .ok (.lstore 5, 2) := by decide +kernel
theorem dX8_laziest_6 : decode cX8_laziest 6 = .ok (.iconst 0, 1) := by decide +kernel
theorem dX8_laziest_7 : decode cX8_laziest 7 = .ok (.istore 7, 2) := by decide +kernel
theorem dX8_laziest_9 : decode cX8_laziest 9 = .ok (.iload 7, 2) := by decide +kernel
theorem dX8_laziest_11 : decode cX8_laziest 11 = .ok (.bipush 8, 2) := by decide +kernel
theorem dX8_laziest_13 : decode cX8_laziest 13 = .ok (.if_icmp .gt 58, 3) := by decide +kernel
theorem dX8_laziest_16 : decode cX8_laziest 16 = .ok (.aload_n 0, 1) := by decide +kernel
theorem dX8_laziest_17 : decode cX8_laziest 17 = .ok (.getfield 49, 3) := by decide +kernel
theorem dX8_laziest_20 : decode cX8_laziest 20 = .ok (.aload_n 0, 1) := by decide +kernel
theorem dX8_laziest_21 : decode cX8_laziest 21 = .ok (.iload_n 1, 1) := by decide +kernel
theorem dX8_laziest_22 : decode cX8_laziest 22 = .ok (.iload 7, 2) := by decide +kernel
theorem dX8_laziest_24 : decode cX8_laziest 24 = .ok (.invokevirtual 208, 3) := by decide +kernel
theorem dX8_laziest_27 : decode cX8_laziest 27 = .ok (.iload_n 2, 1) := by decide +kernel
theorem dX8_laziest_28 : decode cX8_laziest 28 = .ok (.iconst 4, 1) := by decide +kernel
theorem dX8_laziest_29 : decode cX8_laziest 29 = .ok (.iload_n 3, 1) := by decide +kernel
theorem dX8_laziest_30 : decode cX8_laziest 30 = .ok (.iconst 0, 1) := by decide +kernel
theorem dX8_laziest_31 : decode cX8_laziest 31 = .ok (.invokevirtual 171, 3) := by decide +kernel
theorem dX8_laziest_34 : decode cX8_laziest 34 = .ok (.iload 7, 2) := by decide +kernel
theorem dX8_laziest_36 : decode cX8_laziest 36 = .ok (.ifCond .eq 16, 3) := by decide +kernel
theorem dX8_laziest_39 : decode cX8_laziest 39 = .ok (.aload_n 0, 1) := by decide +kernel
theorem dX8_laziest_40 : decode cX8_laziest 40 = .ok (.getfield 49, 3) := by decide +kernel
theorem dX8_laziest_43 : decode cX8_laziest 43 = .ok (.getfield 175, 3) := by decide +kernel
theorem dX8_laziest_46 : decode cX8_laziest 46 = .ok (.lload 5, 2) := by decide +kernel
theorem dX8_laziest_48 : decode cX8_laziest 48 = .ok (.lcmp, 1) := by decide +kernel
theorem dX8_laziest_49 : decode cX8_laziest 49 = .ok (.ifCond .ge 16, 3) := by decide +kernel
theorem dX8_laziest_52 : decode cX8_laziest 52 = .ok (.aload_n 0, 1) := by decide +kernel
theorem dX8_laziest_53 : decode cX8_laziest 53 = .ok (.getfield 49, 3) := by decide +kernel
theorem dX8_laziest_56 : decode cX8_laziest 56 = .ok (.getfield 175, 3) := by decide +kernel
theorem dX8_laziest_59 : decode cX8_laziest 59 = .ok (.lstore 5, 2) := by decide +kernel
theorem dX8_laziest_61 : decode cX8_laziest 61 = .ok (.iload 7, 2) := by decide +kernel
theorem dX8_laziest_63 : decode cX8_laziest 63 = .ok (.istore 4, 2) := by decide +kernel
theorem dX8_laziest_65 : decode cX8_laziest 65 = .ok (.iinc 7 1, 3) := by decide +kernel
theorem dX8_laziest_68 : decode cX8_laziest 68 = .ok (.goto (-59), 3) := by decide +kernel
theorem dX8_laziest_71 : decode cX8_laziest 71 = .ok (.iload 4, 2) := by decide +kernel
theorem dX8_laziest_73 : decode cX8_laziest 73 = .ok (.ireturn, 1) := by decide +kernel
theorem dX8_likeliest_0 : decode cX8_likeliest 0 = .ok (.lconst 0, 1) := by decide +kernel
theorem dX8_likeliest_1 : decode cX8_likeliest 1 = .ok (.lstore_n 1, 1) := by decide +kernel
theorem dX8_likeliest_2 : decode cX8_likeliest 2 = .ok (.iconst 0, 1) := by decide +kernel
theorem dX8_likeliest_3 : decode cX8_likeliest 3 = .ok (.istore_n 3, 1) := by decide +kernel
theorem dX8_likeliest_4 : decode cX8_likeliest 4 = .ok (.iload_n 3, 1) := by decide +kernel
theorem dX8_likeliest_5 : decode cX8_likeliest 5 = .ok (.aload_n 0, 1) := by decide +kernel
theorem dX8_likeliest_6 : decode cX8_likeliest 6 = .ok (.getfield 28, 3) := by decide +kernel
theorem dX8_likeliest_9 : decode cX8_likeliest 9 = .ok (.getfield 109, 3) := by decide +kernel
theorem dX8_likeliest_12 : decode cX8_likeliest 12 = .ok (.if_icmp .ge 44, 3) := by decide +kernel
theorem dX8_likeliest_15 : decode cX8_likeliest 15 = .ok (.aload_n 0, 1) := by decide +kernel
theorem dX8_likeliest_16 : decode cX8_likeliest 16 = .ok (.getfield 49, 3) := by decide +kernel
theorem dX8_likeliest_19 : decode cX8_likeliest 19 = .ok (.aload_n 0, 1) := by decide +kernel
theorem dX8_likeliest_20 : decode cX8_likeliest 20 = .ok (.iload_n 3, 1) := by decide +kernel
theorem dX8_likeliest_21 : decode cX8_likeliest 21 = .ok (.invokevirtual 142, 3) := by decide +kernel
theorem dX8_likeliest_24 : decode cX8_likeliest 24 = .ok (.aload_n 0, 1) := by decide +kernel
theorem dX8_likeliest_25 : decode cX8_likeliest 25 = .ok (.getfield 28, 3) := by decide +kernel
theorem dX8_likeliest_28 : decode cX8_likeliest 28 = .ok (.getfield 157, 3) := by decide +kernel
theorem dX8_likeliest_31 : decode cX8_likeliest 31 = .ok (.bipush 7, 2) := by decide +kernel
theorem dX8_likeliest_33 : decode cX8_likeliest 33 = .ok (.iconst 0, 1) := by decide +kernel
theorem dX8_likeliest_34 : decode cX8_likeliest 34 = .ok (.iconst 0, 1) := by decide +kernel
theorem dX8_likeliest_35 : decode cX8_likeliest 35 = .ok (.invokevirtual 171, 3) := by decide +kernel
theorem dX8_likeliest_38 : decode cX8_likeliest 38 = .ok (.lload_n 1, 1) := by decide +kernel
theorem dX8_likeliest_39 : decode cX8_likeliest 39 = .ok (.aload_n 0, 1) := by decide +kernel
theorem dX8_likeliest_40 : decode cX8_likeliest 40 = .ok (.getfield 49, 3) := by decide +kernel
theorem dX8_likeliest_43 : decode cX8_likeliest 43 = .ok (.getfield 179, 3) := by decide +kernel
theorem dX8_likeliest_46 : decode cX8_likeliest 46 = .ok (.invokestatic 307, 3) := by decide +kernel
theorem dX8_likeliest_49 : decode cX8_likeliest 49 = .ok (.lstore_n 1, 1) := by decide +kernel
theorem dX8_likeliest_50 : decode cX8_likeliest 50 = .ok (.iinc 3 1, 3) := by decide +kernel
theorem dX8_likeliest_53 : decode cX8_likeliest 53 = .ok (.goto (-49), 3) := by decide +kernel
theorem dX8_likeliest_56 : decode cX8_likeliest 56 = .ok (.bipush (-2), 2) := by decide +kernel
theorem dX8_likeliest_58 : decode cX8_likeliest 58 = .ok (.istore_n 3, 1) := by decide +kernel
theorem dX8_likeliest_59 : decode cX8_likeliest 59 = .ok (.aload_n 0, 1) := by decide +kernel
theorem dX8_likeliest_60 : decode cX8_likeliest 60 = .ok (.getfield 67, 3) := by decide +kernel
theorem dX8_likeliest_63 : decode cX8_likeliest 63 = .ok (.lconst 0, 1) := by decide +kernel
theorem dX8_likeliest_64 : decode cX8_likeliest 64 = .ok (.invokevirtual 310, 3) := by decide +kernel
theorem dX8_likeliest_67 : decode cX8_likeliest 67 = .ok (.iconst 0, 1) := by decide +kernel
theorem dX8_likeliest_68 : decode cX8_likeliest 68 = .ok (.istore 4, 2) := by decide +kernel
theorem dX8_likeliest_70 : decode cX8_likeliest 70 = .ok (.iload 4, 2) := by decide +kernel
theorem dX8_likeliest_72 : decode cX8_likeliest 72 = .ok (.aload_n 0, 1) := by decide +kernel
theorem dX8_likeliest_73 : decode cX8_likeliest 73 = .ok (.getfield 28, 3) := by decide +kernel
theorem dX8_likeliest_76 : decode cX8_likeliest 76 = .ok (.getfield 109, 3) := by decide +kernel
theorem dX8_likeliest_79 : decode cX8_likeliest 79 = .ok (.if_icmp .ge 132, 3) := by decide +kernel
theorem dX8_likeliest_82 : decode cX8_likeliest 82 = .ok (.aload_n 0, 1) := by decide +kernel
theorem dX8_likeliest_83 : decode cX8_likeliest 83 = .ok (.getfield 63, 3) := by decide +kernel
theorem dX8_likeliest_86 : decode cX8_likeliest 86 = .ok (.lconst 1, 1) := by decide +kernel
theorem dX8_likeliest_87 : decode cX8_likeliest 87 = .ok (.invokevirtual 310, 3) := by decide +kernel
theorem dX8_likeliest_90 : decode cX8_likeliest 90 = .ok (.aload_n 0, 1) := by decide +kernel
theorem dX8_likeliest_91 : decode cX8_likeliest 91 = .ok (.iload 4, 2) := by decide +kernel
theorem dX8_likeliest_93 : decode cX8_likeliest 93 = .ok (.invokevirtual 142, 3) := by decide +kernel
theorem dX8_likeliest_96 : decode cX8_likeliest 96 = .ok (.astore 5, 2) := by decide +kernel
theorem dX8_likeliest_98 : decode cX8_likeliest 98 = .ok (.iconst 0, 1) := by decide +kernel
theorem dX8_likeliest_99 : decode cX8_likeliest 99 = .ok (.istore 6, 2) := by decide +kernel
theorem dX8_likeliest_101 : decode cX8_likeliest 101 = .ok (.iload 6, 2) := by decide +kernel
theorem dX8_likeliest_103 : decode cX8_likeliest 103 = .ok (.aload_n 0, 1) := by decide +kernel
theorem dX8_likeliest_104 : decode cX8_likeliest 104 = .ok (.getfield 28, 3) := by decide +kernel
theorem dX8_likeliest_107 : decode cX8_likeliest 107 = .ok (.getfield 154, 3) := by decide +kernel
theorem dX8_likeliest_110 : decode cX8_likeliest 110 = .ok (.if_icmp .ge 67, 3) := by decide +kernel
theorem dX8_likeliest_113 : decode cX8_likeliest 113 = .ok (.aload_n 0, 1) := by decide +kernel
theorem dX8_likeliest_114 : decode cX8_likeliest 114 = .ok (.getfield 49, 3) := by decide +kernel
theorem dX8_likeliest_117 : decode cX8_likeliest 117 = .ok (.aload 5, 2) := by decide +kernel
theorem dX8_likeliest_119 : decode cX8_likeliest 119 = .ok (.aload_n 0, 1) := by decide +kernel
theorem dX8_likeliest_120 : decode cX8_likeliest 120 = .ok (.getfield 28, 3) := by decide +kernel
theorem dX8_likeliest_123 : decode cX8_likeliest 123 = .ok (.getfield 157, 3) := by decide +kernel
theorem dX8_likeliest_126 : decode cX8_likeliest 126 = .ok (.bipush 7, 2) := by decide +kernel
theorem dX8_likeliest_128 : decode cX8_likeliest 128 = .ok (.aload_n 0, 1) := by decide +kernel
theorem dX8_likeliest_129 : decode cX8_likeliest 129 = .ok (.getfield 28, 3) := by decide +kernel
theorem dX8_likeliest_132 : decode cX8_likeliest 132 = .ok (.getfield 160, 3) := by decide +kernel
theorem dX8_likeliest_135 : decode cX8_likeliest 135 = .ok (.iload 6, 2) := by decide +kernel
theorem dX8_likeliest_137 : decode cX8_likeliest 137 = .ok (.aaload, 1) := by decide +kernel
theorem dX8_likeliest_138 : decode cX8_likeliest 138 = .ok (.invokestatic 164, 3) := by decide +kernel
theorem dX8_likeliest_141 : decode cX8_likeliest 141 = .ok (.iconst 0, 1) := by decide +kernel
theorem dX8_likeliest_142 : decode cX8_likeliest 142 = .ok (.invokevirtual 171, 3) := by decide +kernel
theorem dX8_likeliest_145 : decode cX8_likeliest 145 = .ok (.aload_n 0, 1) := by decide +kernel
theorem dX8_likeliest_146 : decode cX8_likeliest 146 = .ok (.getfield 63, 3) := by decide +kernel
theorem dX8_likeliest_149 : decode cX8_likeliest 149 = .ok (.aload_n 0, 1) := by decide +kernel
theorem dX8_likeliest_150 : decode cX8_likeliest 150 = .ok (.getfield 49, 3) := by decide +kernel
theorem dX8_likeliest_153 : decode cX8_likeliest 153 = .ok (.getfield 175, 3) := by decide +kernel
theorem dX8_likeliest_156 : decode cX8_likeliest 156 = .ok (.aload_n 0, 1) := by decide +kernel
theorem dX8_likeliest_157 : decode cX8_likeliest 157 = .ok (.getfield 49, 3) := by decide +kernel
theorem dX8_likeliest_160 : decode cX8_likeliest 160 = .ok (.getfield 179, 3) := by decide +kernel
theorem dX8_likeliest_163 : decode cX8_likeliest 163 = .ok (.lload_n 1, 1) := by decide +kernel
theorem dX8_likeliest_164 : decode cX8_likeliest 164 = .ok (.invokestatic 182, 3) := by decide +kernel
theorem dX8_likeliest_167 : decode cX8_likeliest 167 = .ok (.lmul, 1) := by decide +kernel
theorem dX8_likeliest_168 : decode cX8_likeliest 168 = .ok (.invokevirtual 313, 3) := by decide +kernel
theorem dX8_likeliest_171 : decode cX8_likeliest 171 = .ok (.iinc 6 1, 3) := by decide +kernel
theorem dX8_likeliest_174 : decode cX8_likeliest 174 = .ok (.goto (-73), 3) := by decide +kernel
theorem dX8_likeliest_177 : decode cX8_likeliest 177 = .ok (.aload_n 0, 1) := by decide +kernel
theorem dX8_likeliest_178 : decode cX8_likeliest 178 = .ok (.getfield 63, 3) := by decide +kernel
theorem dX8_likeliest_181 : decode cX8_likeliest 181 = .ok (.aload_n 0, 1) := by decide +kernel
theorem dX8_likeliest_182 : decode cX8_likeliest 182 = .ok (.getfield 67, 3) := by decide +kernel
theorem dX8_likeliest_185 : decode cX8_likeliest 185 = .ok (.invokevirtual 316, 3) := by decide +kernel
theorem dX8_likeliest_188 : decode cX8_likeliest 188 = .ok (.ifCond .eq 17, 3) := by decide +kernel
theorem dX8_likeliest_191 : decode cX8_likeliest 191 = .ok (.aload_n 0, 1) := by decide +kernel
theorem dX8_likeliest_192 : decode cX8_likeliest 192 = .ok (.getfield 67, 3) := by decide +kernel
theorem dX8_likeliest_195 : decode cX8_likeliest 195 = .ok (.aload_n 0, 1) := by decide +kernel
theorem dX8_likeliest_196 : decode cX8_likeliest 196 = .ok (.getfield 63, 3) := by decide +kernel
theorem dX8_likeliest_199 : decode cX8_likeliest 199 = .ok (.invokevirtual 320, 3) := by decide +kernel
theorem dX8_likeliest_202 : decode cX8_likeliest 202 = .ok (.iload 4, 2) := by decide +kernel
theorem dX8_likeliest_204 : decode cX8_likeliest 204 = .ok (.istore_n 3, 1) := by decide +kernel
theorem dX8_likeliest_205 : decode cX8_likeliest 205 = .ok (.iinc 4 1, 3) := by decide +kernel
theorem dX8_likeliest_208 : decode cX8_likeliest 208 = .ok (.goto (-138), 3) := by decide +kernel
theorem dX8_likeliest_211 : decode cX8_likeliest 211 = .ok (.iload_n 3, 1) := by decide +kernel
theorem dX8_likeliest_212 : decode cX8_likeliest 212 = .ok (.ireturn, 1) := by decide +kernel
theorem dX8_pack_0 : decode cX8_pack 0 = .ok (.iconst 0, 1) := by decide +kernel
theorem dX8_pack_1 : decode cX8_pack 1 = .ok (.istore_n 1, 1) := by decide +kernel
theorem dX8_pack_2 : decode cX8_pack 2 = .ok (.iconst 0, 1) := by decide +kernel
theorem dX8_pack_3 : decode cX8_pack 3 = .ok (.istore_n 2, 1) := by decide +kernel
theorem dX8_pack_4 : decode cX8_pack 4 = .ok (.iload_n 2, 1) := by decide +kernel
theorem dX8_pack_5 : decode cX8_pack 5 = .ok (.iconst 5, 1) := by decide +kernel
theorem dX8_pack_6 : decode cX8_pack 6 = .ok (.if_icmp .ge 25, 3) := by decide +kernel
theorem dX8_pack_9 : decode cX8_pack 9 = .ok (.iload_n 2, 1) := by decide +kernel
theorem dX8_pack_10 : decode cX8_pack 10 = .ok (.aload_n 0, 1) := by decide +kernel
theorem dX8_pack_11 : decode cX8_pack 11 = .ok (.arraylength, 1) := by decide +kernel
theorem dX8_pack_12 : decode cX8_pack 12 = .ok (.if_icmp .ge 19, 3) := by decide +kernel
theorem dX8_pack_15 : decode cX8_pack 15 = .ok (.iload_n 1, 1) := by decide +kernel
theorem dX8_pack_16 : decode cX8_pack 16 = .ok (.aload_n 0, 1) := by decide +kernel
theorem dX8_pack_17 : decode cX8_pack 17 = .ok (.iload_n 2, 1) := by decide +kernel
theorem dX8_pack_18 : decode cX8_pack 18 = .ok (.iaload, 1) := by decide +kernel
theorem dX8_pack_19 : decode cX8_pack 19 = .ok (.iconst 4, 1) := by decide +kernel
theorem dX8_pack_20 : decode cX8_pack 20 = .ok (.iload_n 2, 1) := by decide +kernel
theorem dX8_pack_21 : decode cX8_pack 21 = .ok (.imul, 1) := by decide +kernel
theorem dX8_pack_22 : decode cX8_pack 22 = .ok (.ishl, 1) := by decide +kernel
theorem dX8_pack_23 : decode cX8_pack 23 = .ok (.ior, 1) := by decide +kernel
theorem dX8_pack_24 : decode cX8_pack 24 = .ok (.istore_n 1, 1) := by decide +kernel
theorem dX8_pack_25 : decode cX8_pack 25 = .ok (.iinc 2 1, 3) := by decide +kernel
theorem dX8_pack_28 : decode cX8_pack 28 = .ok (.goto (-24), 3) := by decide +kernel
theorem dX8_pack_31 : decode cX8_pack 31 = .ok (.iload_n 1, 1) := by decide +kernel
theorem dX8_pack_32 : decode cX8_pack 32 = .ok (.ireturn, 1) := by decide +kernel
theorem dX9_init_0 : decode cX9_init 0 = .ok (.aload_n 0, 1) := by decide +kernel
theorem dX9_init_1 : decode cX9_init 1 = .ok (.invokespecial 1, 3) := by decide +kernel
theorem dX9_init_4 : decode cX9_init 4 = .ok (.aload_n 0, 1) := by decide +kernel
theorem dX9_init_5 : decode cX9_init 5 = .ok (.sipush 900, 3) := by decide +kernel
theorem dX9_init_8 : decode cX9_init 8 = .ok (.newarray .int, 2) := by decide +kernel
theorem dX9_init_10 : decode cX9_init 10 = .ok (.putfield 7, 3) := by decide +kernel
theorem dX9_init_13 : decode cX9_init 13 = .ok (.aload_n 0, 1) := by decide +kernel
theorem dX9_init_14 : decode cX9_init 14 = .ok (.iconst (-1), 1) := by decide +kernel
theorem dX9_init_15 : decode cX9_init 15 = .ok (.putfield 13, 3) := by decide +kernel
theorem dX9_init_18 : decode cX9_init 18 = .ok (.aload_n 0, 1) := by decide +kernel
theorem dX9_init_19 : decode cX9_init 19 = .ok (.bipush 8, 2) := by decide +kernel
theorem dX9_init_21 : decode cX9_init 21 = .ok (.newarray .int, 2) := by decide +kernel
theorem dX9_init_23 : decode cX9_init 23 = .ok (.putfield 17, 3) := by decide +kernel
theorem dX9_init_26 : decode cX9_init 26 = .ok (.aload_n 0, 1) := by decide +kernel
theorem dX9_init_27 : decode cX9_init 27 = .ok (.sipush 135, 3) := by decide +kernel
theorem dX9_init_30 : decode cX9_init 30 = .ok (.newarray .int, 2) := by decide +kernel
theorem dX9_init_32 : decode cX9_init 32 = .ok (.putfield 20, 3) := by decide +kernel
theorem dX9_init_35 : decode cX9_init 35 = .ok (.aload_n 0, 1) := by decide +kernel
theorem dX9_init_36 : decode cX9_init 36 = .ok (.sipush 135, 3) := by decide +kernel
theorem dX9_init_39 : decode cX9_init 39 = .ok (.newarray .int, 2) := by decide +kernel
theorem dX9_init_41 : decode cX9_init 41 = .ok (.putfield 23, 3) := by decide +kernel
theorem dX9_init_44 : decode cX9_init 44 = .ok (.aload_n 0, 1) := by decide +kernel
theorem dX9_init_45 : decode cX9_init 45 = .ok (.bipush 9, 2) := by decide +kernel
theorem dX9_init_47 : decode cX9_init 47 = .ok (.newarray .int, 2) := by decide +kernel
theorem dX9_init_49 : decode cX9_init 49 = .ok (.putfield 26, 3) := by decide +kernel
theorem dX9_init_52 : decode cX9_init 52 = .ok (.aload_n 0, 1) := by decide +kernel
theorem dX9_init_53 : decode cX9_init 53 = .ok (.bipush 27, 2) := by decide +kernel
theorem dX9_init_55 : decode cX9_init 55 = .ok (.newarray .int, 2) := by decide +kernel
theorem dX9_init_57 : decode cX9_init 57 = .ok (.putfield 29, 3) := by decide +kernel
theorem dX9_init_60 : decode cX9_init 60 = .ok (.aload_n 0, 1) := by decide +kernel
theorem dX9_init_61 : decode cX9_init 61 = .ok (.iconst 5, 1) := by decide +kernel
theorem dX9_init_62 : decode cX9_init 62 = .ok (.newarray .int, 2) := by decide +kernel
theorem dX9_init_64 : decode cX9_init 64 = .ok (.putfield 32, 3) := by decide +kernel
theorem dX9_init_67 : decode cX9_init 67 = .ok (.aload_n 0, 1) := by decide +kernel
theorem dX9_init_68 : decode cX9_init 68 = .ok (.iconst 3, 1) := by decide +kernel
theorem dX9_init_69 : decode cX9_init 69 = .ok (.newarray .int, 2) := by decide +kernel
theorem dX9_init_71 : decode cX9_init 71 = .ok (.putfield 35, 3) := by decide +kernel
theorem dX9_init_74 : decode cX9_init 74 = .ok (.aload_n 0, 1) := by decide +kernel
theorem dX9_init_75 : decode cX9_init 75 = .ok (.sipush 8000, 3) := by decide +kernel
theorem dX9_init_78 : decode cX9_init 78 = .ok (.newarray .int, 2) := by decide +kernel
theorem dX9_init_80 : decode cX9_init 80 = .ok (.putfield 38, 3) := by decide +kernel
theorem dX9_init_83 : decode cX9_init 83 = .ok (.aload_n 0, 1) := by decide +kernel
theorem dX9_init_84 : decode cX9_init 84 = .ok (.sipush 8000, 3) := by decide +kernel
theorem dX9_init_87 : decode cX9_init 87 = .ok (.newarray .int, 2) := by decide +kernel
theorem dX9_init_89 : decode cX9_init 89 = .ok (.putfield 41, 3) := by decide +kernel
theorem dX9_init_92 : decode cX9_init 92 = .ok (.aload_n 0, 1) := by decide +kernel
theorem dX9_init_93 : decode cX9_init 93 = .ok (.sipush 16384, 3) := by decide +kernel
theorem dX9_init_96 : decode cX9_init 96 = .ok (.newarray .int, 2) := by decide +kernel
theorem dX9_init_98 : decode cX9_init 98 = .ok (.putfield 44, 3) := by decide +kernel
theorem dX9_init_101 : decode cX9_init 101 = .ok (.aload_n 0, 1) := by decide +kernel
theorem dX9_init_102 : decode cX9_init 102 = .ok (.sipush 8000, 3) := by decide +kernel
theorem dX9_init_105 : decode cX9_init 105 = .ok (.newarray .long, 2) := by decide +kernel
theorem dX9_init_107 : decode cX9_init 107 = .ok (.putfield 47, 3) := by decide +kernel
theorem dX9_init_110 : decode cX9_init 110 = .ok (.aload_n 0, 1) := by decide +kernel
theorem dX9_init_111 : decode cX9_init 111 = .ok (.sipush 8000, 3) := by decide +kernel
theorem dX9_init_114 : decode cX9_init 114 = .ok (.newarray .long, 2) := by decide +kernel
theorem dX9_init_116 : decode cX9_init 116 = .ok (.putfield 51, 3) := by decide +kernel
theorem dX9_init_119 : decode cX9_init 119 = .ok (.aload_n 0, 1) := by decide +kernel
theorem dX9_init_120 : decode cX9_init 120 = .ok (.bipush 60, 2) := by decide +kernel
theorem dX9_init_122 : decode cX9_init 122 = .ok (.newarray .int, 2) := by decide +kernel
theorem dX9_init_124 : decode cX9_init 124 = .ok (.putfield 54, 3) := by decide +kernel
theorem dX9_init_127 : decode cX9_init 127 = .ok (.aload_n 0, 1) := by decide +kernel
theorem dX9_init_128 : decode cX9_init 128 = .ok (.bipush 60, 2) := by decide +kernel
theorem dX9_init_130 : decode cX9_init 130 = .ok (.newarray .int, 2) := by decide +kernel
theorem dX9_init_132 : decode cX9_init 132 = .ok (.putfield 57, 3) := by decide +kernel
theorem dX9_init_135 : decode cX9_init 135 = .ok (.aload_n 0, 1) := by decide +kernel
theorem dX9_init_136 : decode cX9_init 136 = .ok (.bipush 60, 2) := by decide +kernel
theorem dX9_init_138 : decode cX9_init 138 = .ok (.newarray .int, 2) := by decide +kernel
theorem dX9_init_140 : decode cX9_init 140 = .ok (.putfield 60, 3) := by decide +kernel
theorem dX9_init_143 : decode cX9_init 143 = .ok (.aload_n 0, 1) := by decide +kernel
theorem dX9_init_144 : decode cX9_init 144 = .ok (.bipush 48, 2) := by decide +kernel
theorem dX9_init_146 : decode cX9_init 146 = .ok (.newarray .long, 2) := by decide +kernel
theorem dX9_init_148 : decode cX9_init 148 = .ok (.putfield 63, 3) := by decide +kernel
theorem dX9_init_151 : decode cX9_init 151 = .ok (.aload_n 0, 1) := by decide +kernel
theorem dX9_init_152 : decode cX9_init 152 = .ok (.bipush 6, 2) := by decide +kernel
theorem dX9_init_154 : decode cX9_init 154 = .ok (.newarray .long, 2) := by decide +kernel
theorem dX9_init_156 : decode cX9_init 156 = .ok (.putfield 66, 3) := by decide +kernel
theorem dX9_init_159 : decode cX9_init 159 = .ok (.return_, 1) := by decide +kernel
theorem dX9_thrown_0 : decode cX9_thrown 0 = .ok (.aload_n 0, 1) := by decide +kernel
theorem dX9_thrown_1 : decode cX9_thrown 1 = .ok (.getfield 69, 3) := by decide +kernel
theorem dX9_thrown_4 : decode cX9_thrown 4 = .ok (.ireturn, 1) := by decide +kernel
theorem dX9_good_0 : decode cX9_good 0 = .ok (.aload_n 0, 1) := by decide +kernel
theorem dX9_good_1 : decode cX9_good 1 = .ok (.iconst 0, 1) := by decide +kernel
theorem dX9_good_2 : decode cX9_good 2 = .ok (.putfield 69, 3) := by decide +kernel
theorem dX9_good_5 : decode cX9_good 5 = .ok (.aload_n 0, 1) := by decide +kernel
theorem dX9_good_6 : decode cX9_good 6 = .ok (.iconst 0, 1) := by decide +kernel
theorem dX9_good_7 : decode cX9_good 7 = .ok (.putfield 72, 3) := by decide +kernel
theorem dX9_good_10 : decode cX9_good 10 = .ok (.return_, 1) := by decide +kernel
theorem dX9_no_0 : decode cX9_no 0 = .ok (.aload_n 0, 1) := by decide +kernel
theorem dX9_no_1 : decode cX9_no 1 = .ok (.iload_n 1, 1) := by decide +kernel
theorem dX9_no_2 : decode cX9_no 2 = .ok (.putfield 72, 3) := by decide +kernel
theorem dX9_no_5 : decode cX9_no 5 = .ok (.iconst (-1), 1) := by decide +kernel
theorem dX9_no_6 : decode cX9_no 6 = .ok (.ireturn, 1) := by decide +kernel
theorem dX9_isNot_0 : decode cX9_isNot 0 = .ok (.aload_n 0, 1) := by decide +kernel
theorem dX9_isNot_1 : decode cX9_isNot 1 = .ok (.iload_n 1, 1) := by decide +kernel
theorem dX9_isNot_2 : decode cX9_isNot 2 = .ok (.putfield 72, 3) := by decide +kernel
theorem dX9_isNot_5 : decode cX9_isNot 5 = .ok (.iconst 0, 1) := by decide +kernel
theorem dX9_isNot_6 : decode cX9_isNot 6 = .ok (.ireturn, 1) := by decide +kernel
theorem dX9_within_0 : decode cX9_within 0 = .ok (.iload_n 0, 1) := by decide +kernel
theorem dX9_within_1 : decode cX9_within 1 = .ok (.iload_n 1, 1) := by decide +kernel
theorem dX9_within_2 : decode cX9_within 2 = .ok (.if_icmp .lt 12, 3) := by decide +kernel
theorem dX9_within_5 : decode cX9_within 5 = .ok (.iload_n 0, 1) := by decide +kernel
theorem dX9_within_6 : decode cX9_within 6 = .ok (.iload_n 2, 1) := by decide +kernel
theorem dX9_within_7 : decode cX9_within 7 = .ok (.if_icmp .gt 7, 3) := by decide +kernel
theorem dX9_within_10 : decode cX9_within 10 = .ok (.iconst 1, 1) := by decide +kernel
theorem dX9_within_11 : decode cX9_within 11 = .ok (.goto 4, 3) := by decide +kernel
theorem dX9_within_14 : decode cX9_within 14 = .ok (.iconst 0, 1) := by decide +kernel
theorem dX9_within_15 : decode cX9_within 15 = .ok (.ireturn, 1) := by decide +kernel
theorem dX9_feed_0 : decode cX9_feed 0 = .ok (.aload_n 0, 1) := by decide +kernel
theorem dX9_feed_1 : decode cX9_feed 1 = .ok (.iconst 0, 1) := by decide +kernel
theorem dX9_feed_2 : decode cX9_feed 2 = .ok (.putfield 69, 3) := by decide +kernel
theorem dX9_feed_5 : decode cX9_feed 5 = .ok (.aload_n 0, 1) := by decide +kernel
theorem dX9_feed_6 : decode cX9_feed 6 = .ok (.getfield 75, 3) := by decide +kernel
theorem dX9_feed_9 : decode cX9_feed 9 = .ok (.bipush 20, 2) := by decide +kernel
theorem dX9_feed_11 : decode cX9_feed 11 = .ok (.iadd, 1) := by decide +kernel
theorem dX9_feed_12 : decode cX9_feed 12 = .ok (.sipush 900, 3) := by decide +kernel
theorem dX9_feed_15 : decode cX9_feed 15 = .ok (.if_icmp .le 5, 3) := by decide +kernel
theorem dX9_feed_18 : decode cX9_feed 18 = .ok (.iconst (-1), 1) := by decide +kernel
theorem dX9_feed_19 : decode cX9_feed 19 = .ok (.ireturn, 1) := by decide +kernel
theorem dX9_feed_20 : decode cX9_feed 20 = .ok (.iconst 0, 1) := by decide +kernel
theorem dX9_feed_21 : decode cX9_feed 21 = .ok (.istore 6, 2) := by decide +kernel
theorem dX9_feed_23 : decode cX9_feed 23 = .ok (.iload 6, 2) := by decide +kernel
theorem dX9_feed_25 : decode cX9_feed 25 = .ok (.bipush 20, 2) := by decide +kernel
theorem dX9_feed_27 : decode cX9_feed 27 = .ok (.if_icmp .ge 93, 3) := by decide +kernel
theorem dX9_feed_30 : decode cX9_feed 30 = .ok (.iload 6, 2) := by decide +kernel
theorem dX9_feed_32 : decode cX9_feed 32 = .ok (.iconst 4, 1) := by decide +kernel
theorem dX9_feed_33 : decode cX9_feed 33 = .ok (.if_icmp .ge 7, 3) := by decide +kernel
theorem dX9_feed_36 : decode cX9_feed 36 = .ok (.iload_n 1, 1) := by decide +kernel
theorem dX9_feed_37 : decode cX9_feed 37 = .ok (.goto 39, 3) := by decide +kernel
theorem dX9_feed_40 : decode cX9_feed 40 = .ok (.iload 6, 2) := by decide +kernel
theorem dX9_feed_42 : decode cX9_feed 42 = .ok (.bipush 8, 2) := by decide +kernel
theorem dX9_feed_44 : decode cX9_feed 44 = .ok (.if_icmp .ge 7, 3) := by decide +kernel
theorem dX9_feed_47 : decode cX9_feed 47 = .ok (.iload_n 2, 1) := by decide +kernel
theorem dX9_feed_48 : decode cX9_feed 48 = .ok (.goto 28, 3) := by decide +kernel
theorem dX9_feed_51 : decode cX9_feed 51 = .ok (.iload 6, 2) := by decide +kernel
theorem dX9_feed_53 : decode cX9_feed 53 = .ok (.bipush 12, 2) := by decide +kernel
theorem dX9_feed_55 : decode cX9_feed 55 = .ok (.if_icmp .ge 7, 3) := by decide +kernel
theorem dX9_feed_58 : decode cX9_feed 58 = .ok (.iload_n 3, 1) := by decide +kernel
theorem dX9_feed_59 : decode cX9_feed 59 = .ok (.goto 17, 3) := by decide +kernel
theorem dX9_feed_62 : decode cX9_feed 62 = .ok (.iload 6, 2) := by decide +kernel
theorem dX9_feed_64 : decode cX9_feed 64 = .ok (.bipush 16, 2) := by decide +kernel
theorem dX9_feed_66 : decode cX9_feed 66 = .ok (.if_icmp .ge 8, 3) := by decide +kernel
theorem dX9_feed_69 : decode cX9_feed 69 = .ok (.iload 4, 2) := by decide +kernel
theorem dX9_feed_71 : decode cX9_feed 71 = .ok (.goto 5, 3) := by decide +kernel
theorem dX9_feed_74 : decode cX9_feed 74 = .ok (.iload 5, 2) := by decide +kernel
theorem dX9_feed_76 : decode cX9_feed 76 = .ok (.istore 7, 2) := by decide +kernel
theorem dX9_feed_78 : decode cX9_feed 78 = .ok (.aload_n 0, 1) := by decide +kernel
theorem dX9_feed_79 : decode cX9_feed 79 = .ok (.getfield 7, 3) := by decide +kernel
theorem dX9_feed_82 : decode cX9_feed 82 = .ok (.aload_n 0, 1) := by decide +kernel
theorem dX9_feed_83 : decode cX9_feed 83 = .ok (.getfield 75, 3) := by decide +kernel
theorem dX9_feed_86 : decode cX9_feed 86 = .ok (.iload 7, 2) := by decide +kernel
theorem dX9_feed_88 : decode cX9_feed 88 = .ok (.bipush 24, 2) := by decide +kernel
theorem dX9_feed_90 : decode cX9_feed 90 = .ok (.bipush 8, 2) := by decide +kernel
theorem dX9_feed_92 : decode cX9_feed 92 = .ok (.iload 6, 2) := by decide +kernel
theorem dX9_feed_94 : decode cX9_feed 94 = .ok (.iconst 4, 1) := by decide +kernel
theorem dX9_feed_95 : decode cX9_feed 95 = .ok (.irem, 1) := by decide +kernel
theorem dX9_feed_96 : decode cX9_feed 96 = .ok (.imul, 1) := by decide +kernel
theorem dX9_feed_97 : decode cX9_feed 97 = .ok (.isub, 1) := by decide +kernel
theorem dX9_feed_98 : decode cX9_feed 98 = .ok (.ishr, 1) := by decide +kernel
theorem dX9_feed_99 : decode cX9_feed 99 = .ok (.sipush 255, 3) := by decide +kernel
theorem dX9_feed_102 : decode cX9_feed 102 = .ok (.iand, 1) := by decide +kernel
theorem dX9_feed_103 : decode cX9_feed 103 = .ok (.iastore, 1) := by decide +kernel
theorem dX9_feed_104 : decode cX9_feed 104 = .ok (.aload_n 0, 1) := by decide +kernel
theorem dX9_feed_105 : decode cX9_feed 105 = .ok (.dup, 1) := by decide +kernel
theorem dX9_feed_106 : decode cX9_feed 106 = .ok (.getfield 75, 3) := by decide +kernel
theorem dX9_feed_109 : decode cX9_feed 109 = .ok (.iconst 1, 1) := by decide +kernel
theorem dX9_feed_110 : decode cX9_feed 110 = .ok (.iadd, 1) := by decide +kernel
theorem dX9_feed_111 : decode cX9_feed 111 = .ok (.putfield 75, 3) := by decide +kernel
theorem dX9_feed_114 : decode cX9_feed 114 = .ok (.iinc 6 1, 3) := by decide +kernel
theorem dX9_feed_117 : decode cX9_feed 117 = .ok (.goto (-94), 3) := by decide +kernel
theorem dX9_feed_120 : decode cX9_feed 120 = .ok (.aload_n 0, 1) := by decide +kernel
theorem dX9_feed_121 : decode cX9_feed 121 = .ok (.getfield 75, 3) := by decide +kernel
theorem dX9_feed_124 : decode cX9_feed 124 = .ok (.ireturn, 1) := by decide +kernel
theorem dX9_look_0 : decode cX9_look 0 = .ok (.iload_n 1, 1) := by decide +kernel
theorem dX9_look_1 : decode cX9_look 1 = .ok (.aload_n 0, 1) := by decide +kernel
theorem dX9_look_2 : decode cX9_look 2 = .ok (.getfield 78, 3) := by decide +kernel
theorem dX9_look_5 : decode cX9_look 5 = .ok (.if_icmp .ge 12, 3) := by decide +kernel
theorem dX9_look_8 : decode cX9_look 8 = .ok (.aload_n 0, 1) := by decide +kernel
theorem dX9_look_9 : decode cX9_look 9 = .ok (.getfield 7, 3) := by decide +kernel
theorem dX9_look_12 : decode cX9_look 12 = .ok (.iload_n 1, 1) := by decide +kernel
theorem dX9_look_13 : decode cX9_look 13 = .ok (.iaload, 1) := by decide +kernel
theorem dX9_look_14 : decode cX9_look 14 = .ok (.goto 4, 3) := by decide +kernel
theorem dX9_look_17 : decode cX9_look 17 = .ok (.iconst (-1), 1) := by decide +kernel
theorem dX9_look_18 : decode cX9_look 18 = .ok (.ireturn, 1) := by decide +kernel
theorem dX9_isSmall_0 : decode cX9_isSmall 0 = .ok (.iload_n 0, 1) := by decide +kernel
theorem dX9_isSmall_1 : decode cX9_isSmall 1 = .ok (.bipush 97, 2) := by decide +kernel
theorem dX9_isSmall_3 : decode cX9_isSmall 3 = .ok (.if_icmp .lt 13, 3) := by decide +kernel
theorem dX9_isSmall_6 : decode cX9_isSmall 6 = .ok (.iload_n 0, 1) := by decide +kernel
theorem dX9_isSmall_7 : decode cX9_isSmall 7 = .ok (.bipush 122, 2) := by decide +kernel
theorem dX9_isSmall_9 : decode cX9_isSmall 9 = .ok (.if_icmp .gt 7, 3) := by decide +kernel
theorem dX9_isSmall_12 : decode cX9_isSmall 12 = .ok (.iconst 1, 1) := by decide +kernel
theorem dX9_isSmall_13 : decode cX9_isSmall 13 = .ok (.goto 4, 3) := by decide +kernel
theorem dX9_isSmall_16 : decode cX9_isSmall 16 = .ok (.iconst 0, 1) := by decide +kernel
theorem dX9_isSmall_17 : decode cX9_isSmall 17 = .ok (.ireturn, 1) := by decide +kernel
theorem dX9_isDigit_0 : decode cX9_isDigit 0 = .ok (.iload_n 0, 1) := by decide +kernel
theorem dX9_isDigit_1 : decode cX9_isDigit 1 = .ok (.bipush 48, 2) := by decide +kernel
theorem dX9_isDigit_3 : decode cX9_isDigit 3 = .ok (.if_icmp .lt 13, 3) := by decide +kernel
theorem dX9_isDigit_6 : decode cX9_isDigit 6 = .ok (.iload_n 0, 1) := by decide +kernel
theorem dX9_isDigit_7 : decode cX9_isDigit 7 = .ok (.bipush 57, 2) := by decide +kernel
theorem dX9_isDigit_9 : decode cX9_isDigit 9 = .ok (.if_icmp .gt 7, 3) := by decide +kernel
theorem dX9_isDigit_12 : decode cX9_isDigit 12 = .ok (.iconst 1, 1) := by decide +kernel
theorem dX9_isDigit_13 : decode cX9_isDigit 13 = .ok (.goto 4, 3) := by decide +kernel
theorem dX9_isDigit_16 : decode cX9_isDigit 16 = .ok (.iconst 0, 1) := by decide +kernel
theorem dX9_isDigit_17 : decode cX9_isDigit 17 = .ok (.ireturn, 1) := by decide +kernel
theorem dX9_next_0 : decode cX9_next 0 = .ok (.aload_n 0, 1) := by decide +kernel
theorem dX9_next_1 : decode cX9_next 1 = .ok (.getfield 81, 3) := by decide +kernel
theorem dX9_next_4 : decode cX9_next 4 = .ok (.istore_n 1, 1) := by decide +kernel
theorem dX9_next_5 : decode cX9_next 5 = .ok (.aload_n 0, 1) := by decide +kernel
theorem dX9_next_6 : decode cX9_next 6 = .ok (.iload_n 1, 1) := by decide +kernel
theorem dX9_next_7 : decode cX9_next 7 = .ok (.invokevirtual 84, 3) := by decide +kernel
theorem dX9_next_10 : decode cX9_next 10 = .ok (.bipush 32, 2) := by decide +kernel
theorem dX9_next_12 : decode cX9_next 12 = .ok (.if_icmp .ne 9, 3) := by decide +kernel
theorem dX9_next_15 : decode cX9_next 15 = .ok (.iinc 1 1, 3) := by decide +kernel
theorem dX9_next_18 : decode cX9_next 18 = .ok (.goto (-13), 3) := by decide +kernel
theorem dX9_next_21 : decode cX9_next 21 = .ok (.aload_n 0, 1) := by decide +kernel
theorem dX9_next_22 : decode cX9_next 22 = .ok (.iload_n 1, 1) := by decide +kernel
theorem dX9_next_23 : decode cX9_next 23 = .ok (.putfield 88, 3) := by decide +kernel
theorem dX9_next_26 : decode cX9_next 26 = .ok (.aload_n 0, 1) := by decide +kernel
theorem dX9_next_27 : decode cX9_next 27 = .ok (.iload_n 1, 1) := by decide +kernel
theorem dX9_next_28 : decode cX9_next 28 = .ok (.invokevirtual 84, 3) := by decide +kernel
theorem dX9_next_31 : decode cX9_next 31 = .ok (.istore_n 2, 1) := by decide +kernel
theorem dX9_next_32 : decode cX9_next 32 = .ok (.aload_n 0, 1) := by decide +kernel
theorem dX9_next_33 : decode cX9_next 33 = .ok (.iconst 0, 1) := by decide +kernel
theorem dX9_next_34 : decode cX9_next 34 = .ok (.putfield 91, 3) := by decide +kernel
theorem dX9_next_37 : decode cX9_next 37 = .ok (.aload_n 0, 1) := by decide +kernel
theorem dX9_next_38 : decode cX9_next 38 = .ok (.iconst 0, 1) := by decide +kernel
theorem dX9_next_39 : decode cX9_next 39 = .ok (.putfield 94, 3) := by decide +kernel
theorem dX9_next_42 : decode cX9_next 42 = .ok (.iload_n 2, 1) := by decide +kernel
theorem dX9_next_43 : decode cX9_next 43 = .ok (.iconst (-1), 1) := by decide +kernel
theorem dX9_next_44 : decode cX9_next 44 = .ok (.if_icmp .ne 16, 3) := by decide +kernel
theorem dX9_next_47 : decode cX9_next 47 = .ok (.aload_n 0, 1) := by decide +kernel
theorem dX9_next_48 : decode cX9_next 48 = .ok (.iconst 0, 1) := by decide +kernel
theorem dX9_next_49 : decode cX9_next 49 = .ok (.putfield 97, 3) := by decide +kernel
theorem dX9_next_52 : decode cX9_next 52 = .ok (.aload_n 0, 1) := by decide +kernel
theorem dX9_next_53 : decode cX9_next 53 = .ok (.iload_n 1, 1) := by decide +kernel
theorem dX9_next_54 : decode cX9_next 54 = .ok (.putfield 81, 3) := by decide +kernel
theorem dX9_next_57 : decode cX9_next 57 = .ok (.goto 190, 3) := by decide +kernel
theorem dX9_next_60 : decode cX9_next 60 = .ok (.iload_n 2, 1) := by decide +kernel
theorem dX9_next_61 : decode cX9_next 61 = .ok (.invokestatic 100, 3) := by decide +kernel
theorem dX9_next_64 : decode cX9_next 64 = .ok (.ifCond .eq 79, 3) := by decide +kernel
theorem dX9_next_67 : decode cX9_next 67 = .ok (.aload_n 0, 1) := by decide +kernel
theorem dX9_next_68 : decode cX9_next 68 = .ok (.iload_n 1, 1) := by decide +kernel
theorem dX9_next_69 : decode cX9_next 69 = .ok (.invokevirtual 84, 3) := by decide +kernel
theorem dX9_next_72 : decode cX9_next 72 = .ok (.invokestatic 100, 3) := by decide +kernel
theorem dX9_next_75 : decode cX9_next 75 = .ok (.ifCond .eq 42, 3) := by decide +kernel
theorem dX9_next_78 : decode cX9_next 78 = .ok (.aload_n 0, 1) := by decide +kernel
theorem dX9_next_79 : decode cX9_next 79 = .ok (.getfield 91, 3) := by decide +kernel
