theorem dX11_isSwapped_39 : decode cX11_isSwapped 39 = .ok (.aload_n 0, 1) := by decide +kernel
theorem dX11_isSwapped_40 : decode cX11_isSwapped 40 = .ok (.getfield 60, 3) := by decide +kernel
theorem dX11_isSwapped_43 : decode cX11_isSwapped 43 = .ok (.aload_n 0, 1) := by decide +kernel
theorem dX11_isSwapped_44 : decode cX11_isSwapped 44 = .ok (.getfield 54, 3) := by decide +kernel
theorem dX11_isSwapped_47 : decode cX11_isSwapped 47 = .ok (.aload_n 2, 1) := by decide +kernel
theorem dX11_isSwapped_48 : decode cX11_isSwapped 48 = .ok (.invokestatic 194, 3) := by decide +kernel
theorem dX11_isSwapped_51 : decode cX11_isSwapped 51 = .ok (.aload_n 0, 1) := by decide +kernel
theorem dX11_isSwapped_52 : decode cX11_isSwapped 52 = .ok (.getfield 63, 3) := by decide +kernel
theorem dX11_isSwapped_55 : decode cX11_isSwapped 55 = .ok (.aload_n 0, 1) := by decide +kernel
theorem dX11_isSwapped_56 : decode cX11_isSwapped 56 = .ok (.getfield 57, 3) := by decide +kernel
theorem dX11_isSwapped_59 : decode cX11_isSwapped 59 = .ok (.aload_n 3, 1) := by decide +kernel
theorem dX11_isSwapped_60 : decode cX11_isSwapped 60 = .ok (.invokestatic 194, 3) := by decide +kernel
theorem dX11_isSwapped_63 : decode cX11_isSwapped 63 = .ok (.aload_n 0, 1) := by decide +kernel
theorem dX11_isSwapped_64 : decode cX11_isSwapped 64 = .ok (.getfield 69, 3) := by decide +kernel
theorem dX11_isSwapped_67 : decode cX11_isSwapped 67 = .ok (.bipush 30, 2) := by decide +kernel
theorem dX11_isSwapped_69 : decode cX11_isSwapped 69 = .ok (.aload_n 0, 1) := by decide +kernel
theorem dX11_isSwapped_70 : decode cX11_isSwapped 70 = .ok (.getfield 60, 3) := by decide +kernel
theorem dX11_isSwapped_73 : decode cX11_isSwapped 73 = .ok (.bipush 30, 2) := by decide +kernel
theorem dX11_isSwapped_75 : decode cX11_isSwapped 75 = .ok (.aload_n 0, 1) := by decide +kernel
theorem dX11_isSwapped_76 : decode cX11_isSwapped 76 = .ok (.getfield 63, 3) := by decide +kernel
theorem dX11_isSwapped_79 : decode cX11_isSwapped 79 = .ok (.invokestatic 197, 3) := by decide +kernel
theorem dX11_isSwapped_82 : decode cX11_isSwapped 82 = .ok (.aload_n 0, 1) := by decide +kernel
theorem dX11_isSwapped_83 : decode cX11_isSwapped 83 = .ok (.getfield 60, 3) := by decide +kernel
theorem dX11_isSwapped_86 : decode cX11_isSwapped 86 = .ok (.aload_n 0, 1) := by decide +kernel
theorem dX11_isSwapped_87 : decode cX11_isSwapped 87 = .ok (.getfield 51, 3) := by decide +kernel
theorem dX11_isSwapped_90 : decode cX11_isSwapped 90 = .ok (.aload_n 2, 1) := by decide +kernel
theorem dX11_isSwapped_91 : decode cX11_isSwapped 91 = .ok (.invokestatic 194, 3) := by decide +kernel
theorem dX11_isSwapped_94 : decode cX11_isSwapped 94 = .ok (.aload_n 0, 1) := by decide +kernel
theorem dX11_isSwapped_95 : decode cX11_isSwapped 95 = .ok (.getfield 63, 3) := by decide +kernel
theorem dX11_isSwapped_98 : decode cX11_isSwapped 98 = .ok (.aload_n 0, 1) := by decide +kernel
theorem dX11_isSwapped_99 : decode cX11_isSwapped 99 = .ok (.getfield 54, 3) := by decide +kernel
theorem dX11_isSwapped_102 : decode cX11_isSwapped 102 = .ok (.aload_n 3, 1) := by decide +kernel
theorem dX11_isSwapped_103 : decode cX11_isSwapped 103 = .ok (.invokestatic 194, 3) := by decide +kernel
theorem dX11_isSwapped_106 : decode cX11_isSwapped 106 = .ok (.aload_n 0, 1) := by decide +kernel
theorem dX11_isSwapped_107 : decode cX11_isSwapped 107 = .ok (.getfield 72, 3) := by decide +kernel
theorem dX11_isSwapped_110 : decode cX11_isSwapped 110 = .ok (.iconst 1, 1) := by decide +kernel
theorem dX11_isSwapped_111 : decode cX11_isSwapped 111 = .ok (.aload_n 0, 1) := by decide +kernel
theorem dX11_isSwapped_112 : decode cX11_isSwapped 112 = .ok (.getfield 60, 3) := by decide +kernel
theorem dX11_isSwapped_115 : decode cX11_isSwapped 115 = .ok (.iconst 1, 1) := by decide +kernel
theorem dX11_isSwapped_116 : decode cX11_isSwapped 116 = .ok (.aload_n 0, 1) := by decide +kernel
theorem dX11_isSwapped_117 : decode cX11_isSwapped 117 = .ok (.getfield 63, 3) := by decide +kernel
theorem dX11_isSwapped_120 : decode cX11_isSwapped 120 = .ok (.invokestatic 197, 3) := by decide +kernel
theorem dX11_isSwapped_123 : decode cX11_isSwapped 123 = .ok (.aload_n 0, 1) := by decide +kernel
theorem dX11_isSwapped_124 : decode cX11_isSwapped 124 = .ok (.getfield 69, 3) := by decide +kernel
theorem dX11_isSwapped_127 : decode cX11_isSwapped 127 = .ok (.iconst 0, 1) := by decide +kernel
theorem dX11_isSwapped_128 : decode cX11_isSwapped 128 = .ok (.iaload, 1) := by decide +kernel
theorem dX11_isSwapped_129 : decode cX11_isSwapped 129 = .ok (.ifCond .ge 14, 3) := by decide +kernel
theorem dX11_isSwapped_132 : decode cX11_isSwapped 132 = .ok (.aload_n 0, 1) := by decide +kernel
theorem dX11_isSwapped_133 : decode cX11_isSwapped 133 = .ok (.getfield 72, 3) := by decide +kernel
theorem dX11_isSwapped_136 : decode cX11_isSwapped 136 = .ok (.iconst 0, 1) := by decide +kernel
theorem dX11_isSwapped_137 : decode cX11_isSwapped 137 = .ok (.iaload, 1) := by decide +kernel
theorem dX11_isSwapped_138 : decode cX11_isSwapped 138 = .ok (.ifCond .ge 5, 3) := by decide +kernel
theorem dX11_isSwapped_141 : decode cX11_isSwapped 141 = .ok (.iconst 0, 1) := by decide +kernel
theorem dX11_isSwapped_142 : decode cX11_isSwapped 142 = .ok (.ireturn, 1) := by decide +kernel
theorem dX11_isSwapped_143 : decode cX11_isSwapped 143 = .ok (.aload_n 2, 1) := by decide +kernel
theorem dX11_isSwapped_144 : decode cX11_isSwapped 144 = .ok (.aload_n 0, 1) := by decide +kernel
theorem dX11_isSwapped_145 : decode cX11_isSwapped 145 = .ok (.getfield 69, 3) := by decide +kernel
theorem dX11_isSwapped_148 : decode cX11_isSwapped 148 = .ok (.invokestatic 183, 3) := by decide +kernel
theorem dX11_isSwapped_151 : decode cX11_isSwapped 151 = .ok (.aload_n 3, 1) := by decide +kernel
theorem dX11_isSwapped_152 : decode cX11_isSwapped 152 = .ok (.aload_n 0, 1) := by decide +kernel
theorem dX11_isSwapped_153 : decode cX11_isSwapped 153 = .ok (.getfield 72, 3) := by decide +kernel
theorem dX11_isSwapped_156 : decode cX11_isSwapped 156 = .ok (.invokestatic 183, 3) := by decide +kernel
theorem dX11_isSwapped_159 : decode cX11_isSwapped 159 = .ok (.aload_n 0, 1) := by decide +kernel
theorem dX11_isSwapped_160 : decode cX11_isSwapped 160 = .ok (.aload_n 2, 1) := by decide +kernel
theorem dX11_isSwapped_161 : decode cX11_isSwapped 161 = .ok (.aload_n 3, 1) := by decide +kernel
theorem dX11_isSwapped_162 : decode cX11_isSwapped 162 = .ok (.invokevirtual 209, 3) := by decide +kernel
theorem dX11_isSwapped_165 : decode cX11_isSwapped 165 = .ok (.iconst 1, 1) := by decide +kernel
theorem dX11_isSwapped_166 : decode cX11_isSwapped 166 = .ok (.ireturn, 1) := by decide +kernel
theorem dX11_degree_0 : decode cX11_degree 0 = .ok (.iload_n 3, 1) := by decide +kernel
theorem dX11_degree_1 : decode cX11_degree 1 = .ok (.i2l, 1) := by decide +kernel
theorem dX11_degree_2 : decode cX11_degree 2 = .ok (.lconst 0, 1) := by decide +kernel
theorem dX11_degree_3 : decode cX11_degree 3 = .ok (.lconst 1, 1) := by decide +kernel
theorem dX11_degree_4 : decode cX11_degree 4 = .ok (.invokestatic 99, 3) := by decide +kernel
theorem dX11_degree_7 : decode cX11_degree 7 = .ok (.ifCond .eq 15, 3) := by decide +kernel
theorem dX11_degree_10 : decode cX11_degree 10 = .ok (.iload_n 2, 1) := by decide +kernel
theorem dX11_degree_11 : decode cX11_degree 11 = .ok (.i2l, 1) := by decide +kernel
theorem dX11_degree_12 : decode cX11_degree 12 = .ok (.lconst 0, 1) := by decide +kernel
theorem dX11_degree_13 : decode cX11_degree 13 = .ok (.ldc2_w 113, 3) := by decide +kernel
theorem dX11_degree_16 : decode cX11_degree 16 = .ok (.invokestatic 99, 3) := by decide +kernel
theorem dX11_degree_19 : decode cX11_degree 19 = .ok (.ifCond .ne 5, 3) := by decide +kernel
theorem dX11_degree_22 : decode cX11_degree 22 = .ok (.iconst (-1), 1) := by decide +kernel
theorem dX11_degree_23 : decode cX11_degree 23 = .ok (.ireturn, 1) := by decide +kernel
theorem dX11_degree_24 : decode cX11_degree 24 = .ok (.iload_n 1, 1) := by decide +kernel
theorem dX11_degree_25 : decode cX11_degree 25 = .ok (.i2l, 1) := by decide +kernel
theorem dX11_degree_26 : decode cX11_degree 26 = .ok (.lconst 0, 1) := by decide +kernel
theorem dX11_degree_27 : decode cX11_degree 27 = .ok (.ldc2_w 212, 3) := by decide +kernel
theorem dX11_degree_30 : decode cX11_degree 30 = .ok (.invokestatic 99, 3) := by decide +kernel
theorem dX11_degree_33 : decode cX11_degree 33 = .ok (.ifCond .ne 6, 3) := by decide +kernel
theorem dX11_degree_36 : decode cX11_degree 36 = .ok (.bipush (-2), 2) := by decide +kernel
theorem dX11_degree_38 : decode cX11_degree 38 = .ok (.ireturn, 1) := by decide +kernel
theorem dX11_degree_39 : decode cX11_degree 39 = .ok (.aload_n 0, 1) := by decide +kernel
theorem dX11_degree_40 : decode cX11_degree 40 = .ok (.getfield 34, 3) := by decide +kernel
theorem dX11_degree_43 : decode cX11_degree 43 = .ok (.iconst 0, 1) := by decide +kernel
theorem dX11_degree_44 : decode cX11_degree 44 = .ok (.iconst 1, 1) := by decide +kernel
theorem dX11_degree_45 : decode cX11_degree 45 = .ok (.iastore, 1) := by decide +kernel
theorem dX11_degree_46 : decode cX11_degree 46 = .ok (.aload_n 0, 1) := by decide +kernel
theorem dX11_degree_47 : decode cX11_degree 47 = .ok (.getfield 34, 3) := by decide +kernel
theorem dX11_degree_50 : decode cX11_degree 50 = .ok (.iconst 1, 1) := by decide +kernel
theorem dX11_degree_51 : decode cX11_degree 51 = .ok (.iconst 0, 1) := by decide +kernel
theorem dX11_degree_52 : decode cX11_degree 52 = .ok (.iastore, 1) := by decide +kernel
theorem dX11_degree_53 : decode cX11_degree 53 = .ok (.aload_n 0, 1) := by decide +kernel
theorem dX11_degree_54 : decode cX11_degree 54 = .ok (.getfield 34, 3) := by decide +kernel
theorem dX11_degree_57 : decode cX11_degree 57 = .ok (.iconst 2, 1) := by decide +kernel
theorem dX11_degree_58 : decode cX11_degree 58 = .ok (.iconst 1, 1) := by decide +kernel
theorem dX11_degree_59 : decode cX11_degree 59 = .ok (.iastore, 1) := by decide +kernel
theorem dX11_degree_60 : decode cX11_degree 60 = .ok (.aload_n 0, 1) := by decide +kernel
theorem dX11_degree_61 : decode cX11_degree 61 = .ok (.getfield 37, 3) := by decide +kernel
theorem dX11_degree_64 : decode cX11_degree 64 = .ok (.iconst 1, 1) := by decide +kernel
theorem dX11_degree_65 : decode cX11_degree 65 = .ok (.invokestatic 191, 3) := by decide +kernel
theorem dX11_degree_68 : decode cX11_degree 68 = .ok (.aload_n 0, 1) := by decide +kernel
theorem dX11_degree_69 : decode cX11_degree 69 = .ok (.getfield 40, 3) := by decide +kernel
theorem dX11_degree_72 : decode cX11_degree 72 = .ok (.iload_n 2, 1) := by decide +kernel
theorem dX11_degree_73 : decode cX11_degree 73 = .ok (.invokestatic 191, 3) := by decide +kernel
theorem dX11_degree_76 : decode cX11_degree 76 = .ok (.aload_n 0, 1) := by decide +kernel
theorem dX11_degree_77 : decode cX11_degree 77 = .ok (.getfield 43, 3) := by decide +kernel
theorem dX11_degree_80 : decode cX11_degree 80 = .ok (.iconst 1, 1) := by decide +kernel
theorem dX11_degree_81 : decode cX11_degree 81 = .ok (.invokestatic 191, 3) := by decide +kernel
theorem dX11_degree_84 : decode cX11_degree 84 = .ok (.iconst 0, 1) := by decide +kernel
theorem dX11_degree_85 : decode cX11_degree 85 = .ok (.istore 4, 2) := by decide +kernel
theorem dX11_degree_87 : decode cX11_degree 87 = .ok (.iload 4, 2) := by decide +kernel
theorem dX11_degree_89 : decode cX11_degree 89 = .ok (.iload_n 1, 1) := by decide +kernel
theorem dX11_degree_90 : decode cX11_degree 90 = .ok (.if_icmp .ge 60, 3) := by decide +kernel
theorem dX11_degree_93 : decode cX11_degree 93 = .ok (.aload_n 0, 1) := by decide +kernel
theorem dX11_degree_94 : decode cX11_degree 94 = .ok (.iconst 0, 1) := by decide +kernel
theorem dX11_degree_95 : decode cX11_degree 95 = .ok (.aload_n 0, 1) := by decide +kernel
theorem dX11_degree_96 : decode cX11_degree 96 = .ok (.getfield 34, 3) := by decide +kernel
theorem dX11_degree_99 : decode cX11_degree 99 = .ok (.aload_n 0, 1) := by decide +kernel
theorem dX11_degree_100 : decode cX11_degree 100 = .ok (.getfield 37, 3) := by decide +kernel
theorem dX11_degree_103 : decode cX11_degree 103 = .ok (.aload_n 0, 1) := by decide +kernel
theorem dX11_degree_104 : decode cX11_degree 104 = .ok (.getfield 40, 3) := by decide +kernel
theorem dX11_degree_107 : decode cX11_degree 107 = .ok (.aload_n 0, 1) := by decide +kernel
theorem dX11_degree_108 : decode cX11_degree 108 = .ok (.getfield 43, 3) := by decide +kernel
theorem dX11_degree_111 : decode cX11_degree 111 = .ok (.invokevirtual 214, 3) := by decide +kernel
theorem dX11_degree_114 : decode cX11_degree 114 = .ok (.ifCond .eq 27, 3) := by decide +kernel
theorem dX11_degree_117 : decode cX11_degree 117 = .ok (.aload_n 0, 1) := by decide +kernel
theorem dX11_degree_118 : decode cX11_degree 118 = .ok (.iconst 1, 1) := by decide +kernel
theorem dX11_degree_119 : decode cX11_degree 119 = .ok (.aload_n 0, 1) := by decide +kernel
theorem dX11_degree_120 : decode cX11_degree 120 = .ok (.getfield 40, 3) := by decide +kernel
theorem dX11_degree_123 : decode cX11_degree 123 = .ok (.aload_n 0, 1) := by decide +kernel
theorem dX11_degree_124 : decode cX11_degree 124 = .ok (.getfield 43, 3) := by decide +kernel
theorem dX11_degree_127 : decode cX11_degree 127 = .ok (.aload_n 0, 1) := by decide +kernel
theorem dX11_degree_128 : decode cX11_degree 128 = .ok (.getfield 34, 3) := by decide +kernel
theorem dX11_degree_131 : decode cX11_degree 131 = .ok (.aload_n 0, 1) := by decide +kernel
theorem dX11_degree_132 : decode cX11_degree 132 = .ok (.getfield 37, 3) := by decide +kernel
theorem dX11_degree_135 : decode cX11_degree 135 = .ok (.invokevirtual 214, 3) := by decide +kernel
theorem dX11_degree_138 : decode cX11_degree 138 = .ok (.ifCond .ne 6, 3) := by decide +kernel
theorem dX11_degree_141 : decode cX11_degree 141 = .ok (.bipush (-7), 2) := by decide +kernel
theorem dX11_degree_143 : decode cX11_degree 143 = .ok (.ireturn, 1) := by decide +kernel
theorem dX11_degree_144 : decode cX11_degree 144 = .ok (.iinc 4 1, 3) := by decide +kernel
theorem dX11_degree_147 : decode cX11_degree 147 = .ok (.goto (-60), 3) := by decide +kernel
theorem dX11_degree_150 : decode cX11_degree 150 = .ok (.iload_n 3, 1) := by decide +kernel
theorem dX11_degree_151 : decode cX11_degree 151 = .ok (.ifCond .ne 12, 3) := by decide +kernel
theorem dX11_degree_154 : decode cX11_degree 154 = .ok (.aload_n 0, 1) := by decide +kernel
theorem dX11_degree_155 : decode cX11_degree 155 = .ok (.getfield 34, 3) := by decide +kernel
theorem dX11_degree_158 : decode cX11_degree 158 = .ok (.iconst 0, 1) := by decide +kernel
theorem dX11_degree_159 : decode cX11_degree 159 = .ok (.iaload, 1) := by decide +kernel
theorem dX11_degree_160 : decode cX11_degree 160 = .ok (.goto 9, 3) := by decide +kernel
theorem dX11_degree_163 : decode cX11_degree 163 = .ok (.aload_n 0, 1) := by decide +kernel
theorem dX11_degree_164 : decode cX11_degree 164 = .ok (.getfield 40, 3) := by decide +kernel
theorem dX11_degree_167 : decode cX11_degree 167 = .ok (.iconst 0, 1) := by decide +kernel
theorem dX11_degree_168 : decode cX11_degree 168 = .ok (.iaload, 1) := by decide +kernel
theorem dX11_degree_169 : decode cX11_degree 169 = .ok (.istore 4, 2) := by decide +kernel
theorem dX11_degree_171 : decode cX11_degree 171 = .ok (.iload_n 3, 1) := by decide +kernel
theorem dX11_degree_172 : decode cX11_degree 172 = .ok (.ifCond .ne 12, 3) := by decide +kernel
theorem dX11_degree_175 : decode cX11_degree 175 = .ok (.aload_n 0, 1) := by decide +kernel
theorem dX11_degree_176 : decode cX11_degree 176 = .ok (.getfield 37, 3) := by decide +kernel
theorem dX11_degree_179 : decode cX11_degree 179 = .ok (.iconst 0, 1) := by decide +kernel
theorem dX11_degree_180 : decode cX11_degree 180 = .ok (.iaload, 1) := by decide +kernel
theorem dX11_degree_181 : decode cX11_degree 181 = .ok (.goto 9, 3) := by decide +kernel
theorem dX11_degree_184 : decode cX11_degree 184 = .ok (.aload_n 0, 1) := by decide +kernel
theorem dX11_degree_185 : decode cX11_degree 185 = .ok (.getfield 43, 3) := by decide +kernel
theorem dX11_degree_188 : decode cX11_degree 188 = .ok (.iconst 0, 1) := by decide +kernel
theorem dX11_degree_189 : decode cX11_degree 189 = .ok (.iaload, 1) := by decide +kernel
theorem dX11_degree_190 : decode cX11_degree 190 = .ok (.istore 5, 2) := by decide +kernel
theorem dX11_degree_192 : decode cX11_degree 192 = .ok (.iload 4, 2) := by decide +kernel
theorem dX11_degree_194 : decode cX11_degree 194 = .ok (.ifCond .lt 8, 3) := by decide +kernel
theorem dX11_degree_197 : decode cX11_degree 197 = .ok (.iload 5, 2) := by decide +kernel
theorem dX11_degree_199 : decode cX11_degree 199 = .ok (.ifCond .ge 7, 3) := by decide +kernel
theorem dX11_degree_202 : decode cX11_degree 202 = .ok (.iconst 0, 1) := by decide +kernel
theorem dX11_degree_203 : decode cX11_degree 203 = .ok (.goto 17, 3) := by decide +kernel
theorem dX11_degree_206 : decode cX11_degree 206 = .ok (.iload 4, 2) := by decide +kernel
theorem dX11_degree_208 : decode cX11_degree 208 = .ok (.iload 5, 2) := by decide +kernel
theorem dX11_degree_210 : decode cX11_degree 210 = .ok (.if_icmp .le 8, 3) := by decide +kernel
theorem dX11_degree_213 : decode cX11_degree 213 = .ok (.iload 4, 2) := by decide +kernel
theorem dX11_degree_215 : decode cX11_degree 215 = .ok (.goto 5, 3) := by decide +kernel
theorem dX11_degree_218 : decode cX11_degree 218 = .ok (.iload 5, 2) := by decide +kernel
theorem dX11_degree_220 : decode cX11_degree 220 = .ok (.ireturn, 1) := by decide +kernel
theorem dX11_placeIn_0 : decode cX11_placeIn 0 = .ok (.iconst 0, 1) := by decide +kernel
theorem dX11_placeIn_1 : decode cX11_placeIn 1 = .ok (.istore_n 2, 1) := by decide +kernel
theorem dX11_placeIn_2 : decode cX11_placeIn 2 = .ok (.iload_n 2, 1) := by decide +kernel
theorem dX11_placeIn_3 : decode cX11_placeIn 3 = .ok (.aload_n 0, 1) := by decide +kernel
theorem dX11_placeIn_4 : decode cX11_placeIn 4 = .ok (.getfield 11, 3) := by decide +kernel
theorem dX11_placeIn_7 : decode cX11_placeIn 7 = .ok (.bipush 18, 2) := by decide +kernel
theorem dX11_placeIn_9 : decode cX11_placeIn 9 = .ok (.iaload, 1) := by decide +kernel
theorem dX11_placeIn_10 : decode cX11_placeIn 10 = .ok (.if_icmp .ge 22, 3) := by decide +kernel
theorem dX11_placeIn_13 : decode cX11_placeIn 13 = .ok (.aload_n 0, 1) := by decide +kernel
theorem dX11_placeIn_14 : decode cX11_placeIn 14 = .ok (.getfield 11, 3) := by decide +kernel
theorem dX11_placeIn_17 : decode cX11_placeIn 17 = .ok (.bipush 19, 2) := by decide +kernel
theorem dX11_placeIn_19 : decode cX11_placeIn 19 = .ok (.iload_n 2, 1) := by decide +kernel
theorem dX11_placeIn_20 : decode cX11_placeIn 20 = .ok (.iadd, 1) := by decide +kernel
theorem dX11_placeIn_21 : decode cX11_placeIn 21 = .ok (.iaload, 1) := by decide +kernel
theorem dX11_placeIn_22 : decode cX11_placeIn 22 = .ok (.iload_n 1, 1) := by decide +kernel
theorem dX11_placeIn_23 : decode cX11_placeIn 23 = .ok (.if_icmp .ge 9, 3) := by decide +kernel
theorem dX11_placeIn_26 : decode cX11_placeIn 26 = .ok (.iinc 2 1, 3) := by decide +kernel
theorem dX11_placeIn_29 : decode cX11_placeIn 29 = .ok (.goto (-27), 3) := by decide +kernel
theorem dX11_placeIn_32 : decode cX11_placeIn 32 = .ok (.iload_n 2, 1) := by decide +kernel
theorem dX11_placeIn_33 : decode cX11_placeIn 33 = .ok (.ireturn, 1) := by decide +kernel
theorem dX11_isTold_0 : decode cX11_isTold 0 = .ok (.aload_n 0, 1) := by decide +kernel
theorem dX11_isTold_1 : decode cX11_isTold 1 = .ok (.iload_n 1, 1) := by decide +kernel
theorem dX11_isTold_2 : decode cX11_isTold 2 = .ok (.invokevirtual 218, 3) := by decide +kernel
theorem dX11_isTold_5 : decode cX11_isTold 5 = .ok (.istore_n 2, 1) := by decide +kernel
theorem dX11_isTold_6 : decode cX11_isTold 6 = .ok (.iload_n 2, 1) := by decide +kernel
theorem dX11_isTold_7 : decode cX11_isTold 7 = .ok (.aload_n 0, 1) := by decide +kernel
theorem dX11_isTold_8 : decode cX11_isTold 8 = .ok (.getfield 11, 3) := by decide +kernel
theorem dX11_isTold_11 : decode cX11_isTold 11 = .ok (.bipush 18, 2) := by decide +kernel
theorem dX11_isTold_13 : decode cX11_isTold 13 = .ok (.iaload, 1) := by decide +kernel
theorem dX11_isTold_14 : decode cX11_isTold 14 = .ok (.if_icmp .ge 20, 3) := by decide +kernel
theorem dX11_isTold_17 : decode cX11_isTold 17 = .ok (.aload_n 0, 1) := by decide +kernel
theorem dX11_isTold_18 : decode cX11_isTold 18 = .ok (.getfield 11, 3) := by decide +kernel
theorem dX11_isTold_21 : decode cX11_isTold 21 = .ok (.bipush 19, 2) := by decide +kernel
theorem dX11_isTold_23 : decode cX11_isTold 23 = .ok (.iload_n 2, 1) := by decide +kernel
theorem dX11_isTold_24 : decode cX11_isTold 24 = .ok (.iadd, 1) := by decide +kernel
theorem dX11_isTold_25 : decode cX11_isTold 25 = .ok (.iaload, 1) := by decide +kernel
theorem dX11_isTold_26 : decode cX11_isTold 26 = .ok (.iload_n 1, 1) := by decide +kernel
theorem dX11_isTold_27 : decode cX11_isTold 27 = .ok (.if_icmp .ne 7, 3) := by decide +kernel
theorem dX11_isTold_30 : decode cX11_isTold 30 = .ok (.iconst 1, 1) := by decide +kernel
theorem dX11_isTold_31 : decode cX11_isTold 31 = .ok (.goto 4, 3) := by decide +kernel
theorem dX11_isTold_34 : decode cX11_isTold 34 = .ok (.iconst 0, 1) := by decide +kernel
theorem dX11_isTold_35 : decode cX11_isTold 35 = .ok (.ireturn, 1) := by decide +kernel
theorem dX11_tell_0 : decode cX11_tell 0 = .ok (.iload_n 1, 1) := by decide +kernel
theorem dX11_tell_1 : decode cX11_tell 1 = .ok (.iload_n 2, 1) := by decide +kernel
theorem dX11_tell_2 : decode cX11_tell 2 = .ok (.invokestatic 123, 3) := by decide +kernel
theorem dX11_tell_5 : decode cX11_tell 5 = .ok (.ifCond .ne 5, 3) := by decide +kernel
theorem dX11_tell_8 : decode cX11_tell 8 = .ok (.iconst (-1), 1) := by decide +kernel
theorem dX11_tell_9 : decode cX11_tell 9 = .ok (.ireturn, 1) := by decide +kernel
theorem dX11_tell_10 : decode cX11_tell 10 = .ok (.bipush 32, 2) := by decide +kernel
theorem dX11_tell_12 : decode cX11_tell 12 = .ok (.iload_n 1, 1) := by decide +kernel
theorem dX11_tell_13 : decode cX11_tell 13 = .ok (.imul, 1) := by decide +kernel
theorem dX11_tell_14 : decode cX11_tell 14 = .ok (.iload_n 2, 1) := by decide +kernel
theorem dX11_tell_15 : decode cX11_tell 15 = .ok (.iadd, 1) := by decide +kernel
theorem dX11_tell_16 : decode cX11_tell 16 = .ok (.istore_n 3, 1) := by decide +kernel
theorem dX11_tell_17 : decode cX11_tell 17 = .ok (.aload_n 0, 1) := by decide +kernel
theorem dX11_tell_18 : decode cX11_tell 18 = .ok (.iload_n 3, 1) := by decide +kernel
theorem dX11_tell_19 : decode cX11_tell 19 = .ok (.invokevirtual 221, 3) := by decide +kernel
theorem dX11_tell_22 : decode cX11_tell 22 = .ok (.ifCond .eq 6, 3) := by decide +kernel
theorem dX11_tell_25 : decode cX11_tell 25 = .ok (.bipush (-3), 2) := by decide +kernel
theorem dX11_tell_27 : decode cX11_tell 27 = .ok (.ireturn, 1) := by decide +kernel
theorem dX11_tell_28 : decode cX11_tell 28 = .ok (.aload_n 0, 1) := by decide +kernel
theorem dX11_tell_29 : decode cX11_tell 29 = .ok (.getfield 11, 3) := by decide +kernel
theorem dX11_tell_32 : decode cX11_tell 32 = .ok (.bipush 18, 2) := by decide +kernel
theorem dX11_tell_34 : decode cX11_tell 34 = .ok (.iaload, 1) := by decide +kernel
theorem dX11_tell_35 : decode cX11_tell 35 = .ok (.bipush 12, 2) := by decide +kernel
theorem dX11_tell_37 : decode cX11_tell 37 = .ok (.if_icmp .ne 6, 3) := by decide +kernel
theorem dX11_tell_40 : decode cX11_tell 40 = .ok (.bipush (-4), 2) := by decide +kernel
theorem dX11_tell_42 : decode cX11_tell 42 = .ok (.ireturn, 1) := by decide +kernel
theorem dX11_tell_43 : decode cX11_tell 43 = .ok (.aload_n 0, 1) := by decide +kernel
theorem dX11_tell_44 : decode cX11_tell 44 = .ok (.iload_n 3, 1) := by decide +kernel
theorem dX11_tell_45 : decode cX11_tell 45 = .ok (.invokevirtual 218, 3) := by decide +kernel
theorem dX11_tell_48 : decode cX11_tell 48 = .ok (.istore 4, 2) := by decide +kernel
theorem dX11_tell_50 : decode cX11_tell 50 = .ok (.aload_n 0, 1) := by decide +kernel
theorem dX11_tell_51 : decode cX11_tell 51 = .ok (.getfield 11, 3) := by decide +kernel
theorem dX11_tell_54 : decode cX11_tell 54 = .ok (.bipush 18, 2) := by decide +kernel
theorem dX11_tell_56 : decode cX11_tell 56 = .ok (.iaload, 1) := by decide +kernel
theorem dX11_tell_57 : decode cX11_tell 57 = .ok (.istore 5, 2) := by decide +kernel
theorem dX11_tell_59 : decode cX11_tell 59 = .ok (.iload 5, 2) := by decide +kernel
theorem dX11_tell_61 : decode cX11_tell 61 = .ok (.iload 4, 2) := by decide +kernel
theorem dX11_tell_63 : decode cX11_tell 63 = .ok (.if_icmp .le 31, 3) := by decide +kernel
theorem dX11_tell_66 : decode cX11_tell 66 = .ok (.aload_n 0, 1) := by decide +kernel
theorem dX11_tell_67 : decode cX11_tell 67 = .ok (.getfield 11, 3) := by decide +kernel
theorem dX11_tell_70 : decode cX11_tell 70 = .ok (.bipush 19, 2) := by decide +kernel
theorem dX11_tell_72 : decode cX11_tell 72 = .ok (.iload 5, 2) := by decide +kernel
theorem dX11_tell_74 : decode cX11_tell 74 = .ok (.iadd, 1) := by decide +kernel
theorem dX11_tell_75 : decode cX11_tell 75 = .ok (.aload_n 0, 1) := by decide +kernel
theorem dX11_tell_76 : decode cX11_tell 76 = .ok (.getfield 11, 3) := by decide +kernel
theorem dX11_tell_79 : decode cX11_tell 79 = .ok (.bipush 19, 2) := by decide +kernel
theorem dX11_tell_81 : decode cX11_tell 81 = .ok (.iload 5, 2) := by decide +kernel
theorem dX11_tell_83 : decode cX11_tell 83 = .ok (.iadd, 1) := by decide +kernel
theorem dX11_tell_84 : decode cX11_tell 84 = .ok (.iconst 1, 1) := by decide +kernel
theorem dX11_tell_85 : decode cX11_tell 85 = .ok (.isub, 1) := by decide +kernel
theorem dX11_tell_86 : decode cX11_tell 86 = .ok (.iaload, 1) := by decide +kernel
theorem dX11_tell_87 : decode cX11_tell 87 = .ok (.iastore, 1) := by decide +kernel
theorem dX11_tell_88 : decode cX11_tell 88 = .ok (.iinc 5 (-1), 3) := by decide +kernel
theorem dX11_tell_91 : decode cX11_tell 91 = .ok (.goto (-32), 3) := by decide +kernel
theorem dX11_tell_94 : decode cX11_tell 94 = .ok (.aload_n 0, 1) := by decide +kernel
theorem dX11_tell_95 : decode cX11_tell 95 = .ok (.getfield 11, 3) := by decide +kernel
theorem dX11_tell_98 : decode cX11_tell 98 = .ok (.bipush 19, 2) := by decide +kernel
theorem dX11_tell_100 : decode cX11_tell 100 = .ok (.iload 4, 2) := by decide +kernel
theorem dX11_tell_102 : decode cX11_tell 102 = .ok (.iadd, 1) := by decide +kernel
theorem dX11_tell_103 : decode cX11_tell 103 = .ok (.iload_n 3, 1) := by decide +kernel
theorem dX11_tell_104 : decode cX11_tell 104 = .ok (.iastore, 1) := by decide +kernel
theorem dX11_tell_105 : decode cX11_tell 105 = .ok (.aload_n 0, 1) := by decide +kernel
theorem dX11_tell_106 : decode cX11_tell 106 = .ok (.getfield 11, 3) := by decide +kernel
theorem dX11_tell_109 : decode cX11_tell 109 = .ok (.bipush 18, 2) := by decide +kernel
theorem dX11_tell_111 : decode cX11_tell 111 = .ok (.dup2, 1) := by decide +kernel
theorem dX11_tell_112 : decode cX11_tell 112 = .ok (.iaload, 1) := by decide +kernel
theorem dX11_tell_113 : decode cX11_tell 113 = .ok (.iconst 1, 1) := by decide +kernel
theorem dX11_tell_114 : decode cX11_tell 114 = .ok (.iadd, 1) := by decide +kernel
theorem dX11_tell_115 : decode cX11_tell 115 = .ok (.iastore, 1) := by decide +kernel
theorem dX11_tell_116 : decode cX11_tell 116 = .ok (.aload_n 0, 1) := by decide +kernel
theorem dX11_tell_117 : decode cX11_tell 117 = .ok (.getfield 11, 3) := by decide +kernel
theorem dX11_tell_120 : decode cX11_tell 120 = .ok (.bipush 18, 2) := by decide +kernel
theorem dX11_tell_122 : decode cX11_tell 122 = .ok (.iaload, 1) := by decide +kernel
theorem dX11_tell_123 : decode cX11_tell 123 = .ok (.ireturn, 1) := by decide +kernel
theorem dX11_forget_0 : decode cX11_forget 0 = .ok (.iload_n 1, 1) := by decide +kernel
theorem dX11_forget_1 : decode cX11_forget 1 = .ok (.iload_n 2, 1) := by decide +kernel
theorem dX11_forget_2 : decode cX11_forget 2 = .ok (.invokestatic 123, 3) := by decide +kernel
theorem dX11_forget_5 : decode cX11_forget 5 = .ok (.ifCond .ne 5, 3) := by decide +kernel
theorem dX11_forget_8 : decode cX11_forget 8 = .ok (.iconst (-1), 1) := by decide +kernel
theorem dX11_forget_9 : decode cX11_forget 9 = .ok (.ireturn, 1) := by decide +kernel
theorem dX11_forget_10 : decode cX11_forget 10 = .ok (.bipush 32, 2) := by decide +kernel
theorem dX11_forget_12 : decode cX11_forget 12 = .ok (.iload_n 1, 1) := by decide +kernel
theorem dX11_forget_13 : decode cX11_forget 13 = .ok (.imul, 1) := by decide +kernel
theorem dX11_forget_14 : decode cX11_forget 14 = .ok (.iload_n 2, 1) := by decide +kernel
theorem dX11_forget_15 : decode cX11_forget 15 = .ok (.iadd, 1) := by decide +kernel
theorem dX11_forget_16 : decode cX11_forget 16 = .ok (.istore_n 3, 1) := by decide +kernel
theorem dX11_forget_17 : decode cX11_forget 17 = .ok (.aload_n 0, 1) := by decide +kernel
theorem dX11_forget_18 : decode cX11_forget 18 = .ok (.iload_n 3, 1) := by decide +kernel
theorem dX11_forget_19 : decode cX11_forget 19 = .ok (.invokevirtual 221, 3) := by decide +kernel
theorem dX11_forget_22 : decode cX11_forget 22 = .ok (.ifCond .ne 6, 3) := by decide +kernel
theorem dX11_forget_25 : decode cX11_forget 25 = .ok (.bipush (-3), 2) := by decide +kernel
theorem dX11_forget_27 : decode cX11_forget 27 = .ok (.ireturn, 1) := by decide +kernel
theorem dX11_forget_28 : decode cX11_forget 28 = .ok (.aload_n 0, 1) := by decide +kernel
theorem dX11_forget_29 : decode cX11_forget 29 = .ok (.getfield 11, 3) := by decide +kernel
theorem dX11_forget_32 : decode cX11_forget 32 = .ok (.bipush 18, 2) := by decide +kernel
theorem dX11_forget_34 : decode cX11_forget 34 = .ok (.dup2, 1) := by decide +kernel
theorem dX11_forget_35 : decode cX11_forget 35 = .ok (.iaload, 1) := by decide +kernel
theorem dX11_forget_36 : decode cX11_forget 36 = .ok (.iconst 1, 1) := by decide +kernel
theorem dX11_forget_37 : decode cX11_forget 37 = .ok (.isub, 1) := by decide +kernel
theorem dX11_forget_38 : decode cX11_forget 38 = .ok (.iastore, 1) := by decide +kernel
theorem dX11_forget_39 : decode cX11_forget 39 = .ok (.aload_n 0, 1) := by decide +kernel
theorem dX11_forget_40 : decode cX11_forget 40 = .ok (.iload_n 3, 1) := by decide +kernel
theorem dX11_forget_41 : decode cX11_forget 41 = .ok (.invokevirtual 218, 3) := by decide +kernel
theorem dX11_forget_44 : decode cX11_forget 44 = .ok (.istore 4, 2) := by decide +kernel
theorem dX11_forget_46 : decode cX11_forget 46 = .ok (.iload 4, 2) := by decide +kernel
theorem dX11_forget_48 : decode cX11_forget 48 = .ok (.aload_n 0, 1) := by decide +kernel
theorem dX11_forget_49 : decode cX11_forget 49 = .ok (.getfield 11, 3) := by decide +kernel
theorem dX11_forget_52 : decode cX11_forget 52 = .ok (.bipush 18, 2) := by decide +kernel
theorem dX11_forget_54 : decode cX11_forget 54 = .ok (.iaload, 1) := by decide +kernel
theorem dX11_forget_55 : decode cX11_forget 55 = .ok (.if_icmp .ge 31, 3) := by decide +kernel
theorem dX11_forget_58 : decode cX11_forget 58 = .ok (.aload_n 0, 1) := by decide +kernel
theorem dX11_forget_59 : decode cX11_forget 59 = .ok (.getfield 11, 3) := by decide +kernel
theorem dX11_forget_62 : decode cX11_forget 62 = .ok (.bipush 19, 2) := by decide +kernel
theorem dX11_forget_64 : decode cX11_forget 64 = .ok (.iload 4, 2) := by decide +kernel
theorem dX11_forget_66 : decode cX11_forget 66 = .ok (.iadd, 1) := by decide +kernel
theorem dX11_forget_67 : decode cX11_forget 67 = .ok (.aload_n 0, 1) := by decide +kernel
theorem dX11_forget_68 : decode cX11_forget 68 = .ok (.getfield 11, 3) := by decide +kernel
theorem dX11_forget_71 : decode cX11_forget 71 = .ok (.bipush 19, 2) := by decide +kernel
theorem dX11_forget_73 : decode cX11_forget 73 = .ok (.iload 4, 2) := by decide +kernel
theorem dX11_forget_75 : decode cX11_forget 75 = .ok (.iadd, 1) := by decide +kernel
theorem dX11_forget_76 : decode cX11_forget 76 = .ok (.iconst 1, 1) := by decide +kernel
theorem dX11_forget_77 : decode cX11_forget 77 = .ok (.iadd, 1) := by decide +kernel
theorem dX11_forget_78 : decode cX11_forget 78 = .ok (.iaload, 1) := by decide +kernel
theorem dX11_forget_79 : decode cX11_forget 79 = .ok (.iastore, 1) := by decide +kernel
theorem dX11_forget_80 : decode cX11_forget 80 = .ok (.iinc 4 1, 3) := by decide +kernel
theorem dX11_forget_83 : decode cX11_forget 83 = .ok (.goto (-37), 3) := by decide +kernel
theorem dX11_forget_86 : decode cX11_forget 86 = .ok (.aload_n 0, 1) := by decide +kernel
theorem dX11_forget_87 : decode cX11_forget 87 = .ok (.getfield 11, 3) := by decide +kernel
theorem dX11_forget_90 : decode cX11_forget 90 = .ok (.bipush 19, 2) := by decide +kernel
theorem dX11_forget_92 : decode cX11_forget 92 = .ok (.aload_n 0, 1) := by decide +kernel
theorem dX11_forget_93 : decode cX11_forget 93 = .ok (.getfield 11, 3) := by decide +kernel
theorem dX11_forget_96 : decode cX11_forget 96 = .ok (.bipush 18, 2) := by decide +kernel
theorem dX11_forget_98 : decode cX11_forget 98 = .ok (.iaload, 1) := by decide +kernel
theorem dX11_forget_99 : decode cX11_forget 99 = .ok (.iadd, 1) := by decide +kernel
theorem dX11_forget_100 : decode cX11_forget 100 = .ok (.iconst 0, 1) := by decide +kernel
theorem dX11_forget_101 : decode cX11_forget 101 = .ok (.iastore, 1) := by decide +kernel
theorem dX11_forget_102 : decode cX11_forget 102 = .ok (.aload_n 0, 1) := by decide +kernel
theorem dX11_forget_103 : decode cX11_forget 103 = .ok (.getfield 11, 3) := by decide +kernel
theorem dX11_forget_106 : decode cX11_forget 106 = .ok (.bipush 18, 2) := by decide +kernel
theorem dX11_forget_108 : decode cX11_forget 108 = .ok (.iaload, 1) := by decide +kernel
theorem dX11_forget_109 : decode cX11_forget 109 = .ok (.ireturn, 1) := by decide +kernel
theorem dX11_told_0 : decode cX11_told 0 = .ok (.iload_n 1, 1) := by decide +kernel
theorem dX11_told_1 : decode cX11_told 1 = .ok (.i2l, 1) := by decide +kernel
theorem dX11_told_2 : decode cX11_told 2 = .ok (.lconst 0, 1) := by decide +kernel
theorem dX11_told_3 : decode cX11_told 3 = .ok (.aload_n 0, 1) := by decide +kernel
theorem dX11_told_4 : decode cX11_told 4 = .ok (.getfield 11, 3) := by decide +kernel
theorem dX11_told_7 : decode cX11_told 7 = .ok (.bipush 18, 2) := by decide +kernel
theorem dX11_told_9 : decode cX11_told 9 = .ok (.iaload, 1) := by decide +kernel
theorem dX11_told_10 : decode cX11_told 10 = .ok (.iconst 1, 1) := by decide +kernel
theorem dX11_told_11 : decode cX11_told 11 = .ok (.isub, 1) := by decide +kernel
theorem dX11_told_12 : decode cX11_told 12 = .ok (.i2l, 1) := by decide +kernel
theorem dX11_told_13 : decode cX11_told 13 = .ok (.invokestatic 99, 3) := by decide +kernel
theorem dX11_told_16 : decode cX11_told 16 = .ok (.ifCond .eq 15, 3) := by decide +kernel
theorem dX11_told_19 : decode cX11_told 19 = .ok (.aload_n 0, 1) := by decide +kernel
theorem dX11_told_20 : decode cX11_told 20 = .ok (.getfield 11, 3) := by decide +kernel
theorem dX11_told_23 : decode cX11_told 23 = .ok (.bipush 19, 2) := by decide +kernel
theorem dX11_told_25 : decode cX11_told 25 = .ok (.iload_n 1, 1) := by decide +kernel
theorem dX11_told_26 : decode cX11_told 26 = .ok (.iadd, 1) := by decide +kernel
theorem dX11_told_27 : decode cX11_told 27 = .ok (.iaload, 1) := by decide +kernel
theorem dX11_told_28 : decode cX11_told 28 = .ok (.goto 5, 3) := by decide +kernel
theorem dX11_told_31 : decode cX11_told 31 = .ok (.bipush (-5), 2) := by decide +kernel
theorem dX11_told_33 : decode cX11_told 33 = .ok (.ireturn, 1) := by decide +kernel
theorem dX11_moves_0 : decode cX11_moves 0 = .ok (.iconst 0, 1) := by decide +kernel
theorem dX11_moves_1 : decode cX11_moves 1 = .ok (.istore_n 1, 1) := by decide +kernel
theorem dX11_moves_2 : decode cX11_moves 2 = .ok (.iload_n 1, 1) := by decide +kernel
theorem dX11_moves_3 : decode cX11_moves 3 = .ok (.sipush 1024, 3) := by decide +kernel
theorem dX11_moves_6 : decode cX11_moves 6 = .ok (.if_icmp .ge 16, 3) := by decide +kernel
theorem dX11_moves_9 : decode cX11_moves 9 = .ok (.aload_n 0, 1) := by decide +kernel
theorem dX11_moves_10 : decode cX11_moves 10 = .ok (.getfield 75, 3) := by decide +kernel
theorem dX11_moves_13 : decode cX11_moves 13 = .ok (.iload_n 1, 1) := by decide +kernel
theorem dX11_moves_14 : decode cX11_moves 14 = .ok (.iconst 0, 1) := by decide +kernel
theorem dX11_moves_15 : decode cX11_moves 15 = .ok (.bastore, 1) := by decide +kernel
theorem dX11_moves_16 : decode cX11_moves 16 = .ok (.iinc 1 1, 3) := by decide +kernel
theorem dX11_moves_19 : decode cX11_moves 19 = .ok (.goto (-17), 3) := by decide +kernel
theorem dX11_moves_22 : decode cX11_moves 22 = .ok (.iconst 0, 1) := by decide +kernel
theorem dX11_moves_23 : decode cX11_moves 23 = .ok (.istore_n 1, 1) := by decide +kernel
theorem dX11_moves_24 : decode cX11_moves 24 = .ok (.iload_n 1, 1) := by decide +kernel
theorem dX11_moves_25 : decode cX11_moves 25 = .ok (.aload_n 0, 1) := by decide +kernel
theorem dX11_moves_26 : decode cX11_moves 26 = .ok (.getfield 11, 3) := by decide +kernel
theorem dX11_moves_29 : decode cX11_moves 29 = .ok (.bipush 18, 2) := by decide +kernel
theorem dX11_moves_31 : decode cX11_moves 31 = .ok (.iaload, 1) := by decide +kernel
theorem dX11_moves_32 : decode cX11_moves 32 = .ok (.if_icmp .ge 37, 3) := by decide +kernel
theorem dX11_moves_35 : decode cX11_moves 35 = .ok (.aload_n 0, 1) := by decide +kernel
theorem dX11_moves_36 : decode cX11_moves 36 = .ok (.aload_n 0, 1) := by decide +kernel
theorem dX11_moves_37 : decode cX11_moves 37 = .ok (.getfield 11, 3) := by decide +kernel
theorem dX11_moves_40 : decode cX11_moves 40 = .ok (.bipush 19, 2) := by decide +kernel
theorem dX11_moves_42 : decode cX11_moves 42 = .ok (.iload_n 1, 1) := by decide +kernel
theorem dX11_moves_43 : decode cX11_moves 43 = .ok (.iadd, 1) := by decide +kernel
theorem dX11_moves_44 : decode cX11_moves 44 = .ok (.iaload, 1) := by decide +kernel
theorem dX11_moves_45 : decode cX11_moves 45 = .ok (.iconst 0, 1) := by decide +kernel
theorem dX11_moves_46 : decode cX11_moves 46 = .ok (.invokevirtual 158, 3) := by decide +kernel
theorem dX11_moves_49 : decode cX11_moves 49 = .ok (.istore_n 2, 1) := by decide +kernel
theorem dX11_moves_50 : decode cX11_moves 50 = .ok (.iload_n 2, 1) := by decide +kernel
theorem dX11_moves_51 : decode cX11_moves 51 = .ok (.bipush (-7), 2) := by decide +kernel
theorem dX11_moves_53 : decode cX11_moves 53 = .ok (.if_icmp .eq 10, 3) := by decide +kernel
theorem dX11_moves_56 : decode cX11_moves 56 = .ok (.aload_n 0, 1) := by decide +kernel
theorem dX11_moves_57 : decode cX11_moves 57 = .ok (.getfield 75, 3) := by decide +kernel
theorem dX11_moves_60 : decode cX11_moves 60 = .ok (.iload_n 2, 1) := by decide +kernel
theorem dX11_moves_61 : decode cX11_moves 61 = .ok (.iconst 1, 1) := by decide +kernel
theorem dX11_moves_62 : decode cX11_moves 62 = .ok (.bastore, 1) := by decide +kernel
theorem dX11_moves_63 : decode cX11_moves 63 = .ok (.iinc 1 1, 3) := by decide +kernel
theorem dX11_moves_66 : decode cX11_moves 66 = .ok (.goto (-42), 3) := by decide +kernel
theorem dX11_moves_69 : decode cX11_moves 69 = .ok (.return_, 1) := by decide +kernel
theorem dX11_moved_0 : decode cX11_moved 0 = .ok (.aload_n 0, 1) := by decide +kernel
theorem dX11_moved_1 : decode cX11_moved 1 = .ok (.invokevirtual 224, 3) := by decide +kernel
theorem dX11_moved_4 : decode cX11_moved 4 = .ok (.iconst 0, 1) := by decide +kernel
theorem dX11_moved_5 : decode cX11_moved 5 = .ok (.istore_n 2, 1) := by decide +kernel
theorem dX11_moved_6 : decode cX11_moved 6 = .ok (.iconst 0, 1) := by decide +kernel
theorem dX11_moved_7 : decode cX11_moved 7 = .ok (.istore_n 3, 1) := by decide +kernel
theorem dX11_moved_8 : decode cX11_moved 8 = .ok (.iload_n 3, 1) := by decide +kernel
theorem dX11_moved_9 : decode cX11_moved 9 = .ok (.sipush 1024, 3) := by decide +kernel
theorem dX11_moved_12 : decode cX11_moved 12 = .ok (.if_icmp .ge 28, 3) := by decide +kernel
theorem dX11_moved_15 : decode cX11_moved 15 = .ok (.aload_n 0, 1) := by decide +kernel
theorem dX11_moved_16 : decode cX11_moved 16 = .ok (.getfield 75, 3) := by decide +kernel
theorem dX11_moved_19 : decode cX11_moved 19 = .ok (.iload_n 3, 1) := by decide +kernel
theorem dX11_moved_20 : decode cX11_moved 20 = .ok (.baload, 1) := by decide +kernel
theorem dX11_moved_21 : decode cX11_moved 21 = .ok (.ifCond .eq 13, 3) := by decide +kernel
theorem dX11_moved_24 : decode cX11_moved 24 = .ok (.iload_n 2, 1) := by decide +kernel
theorem dX11_moved_25 : decode cX11_moved 25 = .ok (.iload_n 1, 1) := by decide +kernel
theorem dX11_moved_26 : decode cX11_moved 26 = .ok (.if_icmp .ne 5, 3) := by decide +kernel
theorem dX11_moved_29 : decode cX11_moved 29 = .ok (.iload_n 3, 1) := by decide +kernel
theorem dX11_moved_30 : decode cX11_moved 30 = .ok (.ireturn, 1) := by decide +kernel
theorem dX11_moved_31 : decode cX11_moved 31 = .ok (.iinc 2 1, 3) := by decide +kernel
theorem dX11_moved_34 : decode cX11_moved 34 = .ok (.iinc 3 1, 3) := by decide +kernel
theorem dX11_moved_37 : decode cX11_moved 37 = .ok (.goto (-29), 3) := by decide +kernel
theorem dX11_moved_40 : decode cX11_moved 40 = .ok (.iload_n 1, 1) := by decide +kernel
theorem dX11_moved_41 : decode cX11_moved 41 = .ok (.iconst (-1), 1) := by decide +kernel
theorem dX11_moved_42 : decode cX11_moved 42 = .ok (.if_icmp .ne 7, 3) := by decide +kernel
theorem dX11_moved_45 : decode cX11_moved 45 = .ok (.iload_n 2, 1) := by decide +kernel
theorem dX11_moved_46 : decode cX11_moved 46 = .ok (.goto 5, 3) := by decide +kernel
theorem dX11_moved_49 : decode cX11_moved 49 = .ok (.bipush (-5), 2) := by decide +kernel
theorem dX11_moved_51 : decode cX11_moved 51 = .ok (.ireturn, 1) := by decide +kernel
theorem dX11_move_0 : decode cX11_move 0 = .ok (.aload_n 0, 1) := by decide +kernel
theorem dX11_move_1 : decode cX11_move 1 = .ok (.invokevirtual 224, 3) := by decide +kernel
theorem dX11_move_4 : decode cX11_move 4 = .ok (.iconst 0, 1) := by decide +kernel
theorem dX11_move_5 : decode cX11_move 5 = .ok (.istore_n 1, 1) := by decide +kernel
theorem dX11_move_6 : decode cX11_move 6 = .ok (.iload_n 1, 1) := by decide +kernel
theorem dX11_move_7 : decode cX11_move 7 = .ok (.bipush 12, 2) := by decide +kernel
theorem dX11_move_9 : decode cX11_move 9 = .ok (.if_icmp .ge 19, 3) := by decide +kernel
theorem dX11_move_12 : decode cX11_move 12 = .ok (.aload_n 0, 1) := by decide +kernel
theorem dX11_move_13 : decode cX11_move 13 = .ok (.getfield 11, 3) := by decide +kernel
theorem dX11_move_16 : decode cX11_move 16 = .ok (.bipush 19, 2) := by decide +kernel
theorem dX11_move_18 : decode cX11_move 18 = .ok (.iload_n 1, 1) := by decide +kernel
theorem dX11_move_19 : decode cX11_move 19 = .ok (.iadd, 1) := by decide +kernel
theorem dX11_move_20 : decode cX11_move 20 = .ok (.iconst 0, 1) := by decide +kernel
theorem dX11_move_21 : decode cX11_move 21 = .ok (.iastore, 1) := by decide +kernel
theorem dX11_move_22 : decode cX11_move 22 = .ok (.iinc 1 1, 3) := by decide +kernel
theorem dX11_move_25 : decode cX11_move 25 = .ok (.goto (-19), 3) := by decide +kernel
theorem dX11_move_28 : decode cX11_move 28 = .ok (.aload_n 0, 1) := by decide +kernel
theorem dX11_move_29 : decode cX11_move 29 = .ok (.getfield 11, 3) := by decide +kernel
theorem dX11_move_32 : decode cX11_move 32 = .ok (.bipush 18, 2) := by decide +kernel
theorem dX11_move_34 : decode cX11_move 34 = .ok (.iconst 0, 1) := by decide +kernel
theorem dX11_move_35 : decode cX11_move 35 = .ok (.iastore, 1) := by decide +kernel
theorem dX11_move_36 : decode cX11_move 36 = .ok (.iconst 0, 1) := by decide +kernel
theorem dX11_move_37 : decode cX11_move 37 = .ok (.istore_n 1, 1) := by decide +kernel
theorem dX11_move_38 : decode cX11_move 38 = .ok (.iload_n 1, 1) := by decide +kernel
theorem dX11_move_39 : decode cX11_move 39 = .ok (.sipush 1024, 3) := by decide +kernel
theorem dX11_move_42 : decode cX11_move 42 = .ok (.if_icmp .ge 45, 3) := by decide +kernel
theorem dX11_move_45 : decode cX11_move 45 = .ok (.aload_n 0, 1) := by decide +kernel
theorem dX11_move_46 : decode cX11_move 46 = .ok (.getfield 75, 3) := by decide +kernel
theorem dX11_move_49 : decode cX11_move 49 = .ok (.iload_n 1, 1) := by decide +kernel
theorem dX11_move_50 : decode cX11_move 50 = .ok (.baload, 1) := by decide +kernel
theorem dX11_move_51 : decode cX11_move 51 = .ok (.ifCond .eq 30, 3) := by decide +kernel
theorem dX11_move_54 : decode cX11_move 54 = .ok (.aload_n 0, 1) := by decide +kernel
theorem dX11_move_55 : decode cX11_move 55 = .ok (.getfield 11, 3) := by decide +kernel
theorem dX11_move_58 : decode cX11_move 58 = .ok (.bipush 19, 2) := by decide +kernel
theorem dX11_move_60 : decode cX11_move 60 = .ok (.aload_n 0, 1) := by decide +kernel
theorem dX11_move_61 : decode cX11_move 61 = .ok (.getfield 11, 3) := by decide +kernel
theorem dX11_move_64 : decode cX11_move 64 = .ok (.bipush 18, 2) := by decide +kernel
theorem dX11_move_66 : decode cX11_move 66 = .ok (.iaload, 1) := by decide +kernel
theorem dX11_move_67 : decode cX11_move 67 = .ok (.iadd, 1) := by decide +kernel
theorem dX11_move_68 : decode cX11_move 68 = .ok (.iload_n 1, 1) := by decide +kernel
theorem dX11_move_69 : decode cX11_move 69 = .ok (.iastore, 1) := by decide +kernel
theorem dX11_move_70 : decode cX11_move 70 = .ok (.aload_n 0, 1) := by decide +kernel
theorem dX11_move_71 : decode cX11_move 71 = .ok (.getfield 11, 3) := by decide +kernel
theorem dX11_move_74 : decode cX11_move 74 = .ok (.bipush 18, 2) := by decide +kernel
theorem dX11_move_76 : decode cX11_move 76 = .ok (.dup2, 1) := by decide +kernel
theorem dX11_move_77 : decode cX11_move 77 = .ok (.iaload, 1) := by decide +kernel
theorem dX11_move_78 : decode cX11_move 78 = .ok (.iconst 1, 1) := by decide +kernel
theorem dX11_move_79 : decode cX11_move 79 = .ok (.iadd, 1) := by decide +kernel
theorem dX11_move_80 : decode cX11_move 80 = .ok (.iastore, 1) := by decide +kernel
theorem dX11_move_81 : decode cX11_move 81 = .ok (.iinc 1 1, 3) := by decide +kernel
theorem dX11_move_84 : decode cX11_move 84 = .ok (.goto (-46), 3) := by decide +kernel
theorem dX11_move_87 : decode cX11_move 87 = .ok (.aload_n 0, 1) := by decide +kernel
theorem dX11_move_88 : decode cX11_move 88 = .ok (.getfield 11, 3) := by decide +kernel
theorem dX11_move_91 : decode cX11_move 91 = .ok (.bipush 18, 2) := by decide +kernel
theorem dX11_move_93 : decode cX11_move 93 = .ok (.iaload, 1) := by decide +kernel
theorem dX11_move_94 : decode cX11_move 94 = .ok (.ireturn, 1) := by decide +kernel
theorem dX11_grows_0 : decode cX11_grows 0 = .ok (.iload_n 1, 1) := by decide +kernel
theorem dX11_grows_1 : decode cX11_grows 1 = .ok (.i2l, 1) := by decide +kernel
theorem dX11_grows_2 : decode cX11_grows 2 = .ok (.lconst 0, 1) := by decide +kernel
theorem dX11_grows_3 : decode cX11_grows 3 = .ok (.ldc2_w 227, 3) := by decide +kernel
theorem dX11_grows_6 : decode cX11_grows 6 = .ok (.invokestatic 99, 3) := by decide +kernel
theorem dX11_grows_9 : decode cX11_grows 9 = .ok (.ifCond .ne 6, 3) := by decide +kernel
theorem dX11_grows_12 : decode cX11_grows 12 = .ok (.bipush (-2), 2) := by decide +kernel
theorem dX11_grows_14 : decode cX11_grows 14 = .ok (.ireturn, 1) := by decide +kernel
theorem dX11_grows_15 : decode cX11_grows 15 = .ok (.iconst 0, 1) := by decide +kernel
theorem dX11_grows_16 : decode cX11_grows 16 = .ok (.istore_n 2, 1) := by decide +kernel
theorem dX11_grows_17 : decode cX11_grows 17 = .ok (.iload_n 2, 1) := by decide +kernel
theorem dX11_grows_18 : decode cX11_grows 18 = .ok (.sipush 1024, 3) := by decide +kernel
theorem dX11_grows_21 : decode cX11_grows 21 = .ok (.if_icmp .ge 16, 3) := by decide +kernel
theorem dX11_grows_24 : decode cX11_grows 24 = .ok (.aload_n 0, 1) := by decide +kernel
theorem dX11_grows_25 : decode cX11_grows 25 = .ok (.getfield 75, 3) := by decide +kernel
theorem dX11_grows_28 : decode cX11_grows 28 = .ok (.iload_n 2, 1) := by decide +kernel
theorem dX11_grows_29 : decode cX11_grows 29 = .ok (.iconst 0, 1) := by decide +kernel
theorem dX11_grows_30 : decode cX11_grows 30 = .ok (.bastore, 1) := by decide +kernel
theorem dX11_grows_31 : decode cX11_grows 31 = .ok (.iinc 2 1, 3) := by decide +kernel
theorem dX11_grows_34 : decode cX11_grows 34 = .ok (.goto (-17), 3) := by decide +kernel
theorem dX11_grows_37 : decode cX11_grows 37 = .ok (.iconst 0, 1) := by decide +kernel
theorem dX11_grows_38 : decode cX11_grows 38 = .ok (.istore_n 2, 1) := by decide +kernel
theorem dX11_grows_39 : decode cX11_grows 39 = .ok (.iconst 0, 1) := by decide +kernel
theorem dX11_grows_40 : decode cX11_grows 40 = .ok (.istore_n 3, 1) := by decide +kernel
theorem dX11_grows_41 : decode cX11_grows 41 = .ok (.iload_n 3, 1) := by decide +kernel
theorem dX11_grows_42 : decode cX11_grows 42 = .ok (.aload_n 0, 1) := by decide +kernel
theorem dX11_grows_43 : decode cX11_grows 43 = .ok (.getfield 11, 3) := by decide +kernel
theorem dX11_grows_46 : decode cX11_grows 46 = .ok (.bipush 18, 2) := by decide +kernel
theorem dX11_grows_48 : decode cX11_grows 48 = .ok (.iaload, 1) := by decide +kernel
theorem dX11_grows_49 : decode cX11_grows 49 = .ok (.if_icmp .ge 42, 3) := by decide +kernel
theorem dX11_grows_52 : decode cX11_grows 52 = .ok (.aload_n 0, 1) := by decide +kernel
theorem dX11_grows_53 : decode cX11_grows 53 = .ok (.getfield 75, 3) := by decide +kernel
theorem dX11_grows_56 : decode cX11_grows 56 = .ok (.aload_n 0, 1) := by decide +kernel
theorem dX11_grows_57 : decode cX11_grows 57 = .ok (.getfield 11, 3) := by decide +kernel
theorem dX11_grows_60 : decode cX11_grows 60 = .ok (.bipush 19, 2) := by decide +kernel
theorem dX11_grows_62 : decode cX11_grows 62 = .ok (.iload_n 3, 1) := by decide +kernel
theorem dX11_grows_63 : decode cX11_grows 63 = .ok (.iadd, 1) := by decide +kernel
theorem dX11_grows_64 : decode cX11_grows 64 = .ok (.iaload, 1) := by decide +kernel
theorem dX11_grows_65 : decode cX11_grows 65 = .ok (.iconst 1, 1) := by decide +kernel
theorem dX11_grows_66 : decode cX11_grows 66 = .ok (.bastore, 1) := by decide +kernel
theorem dX11_grows_67 : decode cX11_grows 67 = .ok (.aload_n 0, 1) := by decide +kernel
theorem dX11_grows_68 : decode cX11_grows 68 = .ok (.getfield 24, 3) := by decide +kernel
theorem dX11_grows_71 : decode cX11_grows 71 = .ok (.iload_n 2, 1) := by decide +kernel
theorem dX11_grows_72 : decode cX11_grows 72 = .ok (.aload_n 0, 1) := by decide +kernel
theorem dX11_grows_73 : decode cX11_grows 73 = .ok (.getfield 11, 3) := by decide +kernel
theorem dX11_grows_76 : decode cX11_grows 76 = .ok (.bipush 19, 2) := by decide +kernel
theorem dX11_grows_78 : decode cX11_grows 78 = .ok (.iload_n 3, 1) := by decide +kernel
theorem dX11_grows_79 : decode cX11_grows 79 = .ok (.iadd, 1) := by decide +kernel
theorem dX11_grows_80 : decode cX11_grows 80 = .ok (.iaload, 1) := by decide +kernel
theorem dX11_grows_81 : decode cX11_grows 81 = .ok (.iastore, 1) := by decide +kernel
theorem dX11_grows_82 : decode cX11_grows 82 = .ok (.iinc 2 1, 3) := by decide +kernel
theorem dX11_grows_85 : decode cX11_grows 85 = .ok (.iinc 3 1, 3) := by decide +kernel
theorem dX11_grows_88 : decode cX11_grows 88 = .ok (.goto (-47), 3) := by decide +kernel
theorem dX11_grows_91 : decode cX11_grows 91 = .ok (.iconst 0, 1) := by decide +kernel
theorem dX11_grows_92 : decode cX11_grows 92 = .ok (.istore_n 3, 1) := by decide +kernel
theorem dX11_grows_93 : decode cX11_grows 93 = .ok (.iconst 0, 1) := by decide +kernel
theorem dX11_grows_94 : decode cX11_grows 94 = .ok (.istore 4, 2) := by decide +kernel
theorem dX11_grows_96 : decode cX11_grows 96 = .ok (.iload 4, 2) := by decide +kernel
theorem dX11_grows_98 : decode cX11_grows 98 = .ok (.iload_n 1, 1) := by decide +kernel
theorem dX11_grows_99 : decode cX11_grows 99 = .ok (.if_icmp .ge 81, 3) := by decide +kernel
theorem dX11_grows_102 : decode cX11_grows 102 = .ok (.iload_n 2, 1) := by decide +kernel
theorem dX11_grows_103 : decode cX11_grows 103 = .ok (.istore 5, 2) := by decide +kernel
theorem dX11_grows_105 : decode cX11_grows 105 = .ok (.iload_n 3, 1) := by decide +kernel
theorem dX11_grows_106 : decode cX11_grows 106 = .ok (.istore 6, 2) := by decide +kernel
theorem dX11_grows_108 : decode cX11_grows 108 = .ok (.iload 6, 2) := by decide +kernel
theorem dX11_grows_110 : decode cX11_grows 110 = .ok (.iload 5, 2) := by decide +kernel
theorem dX11_grows_112 : decode cX11_grows 112 = .ok (.if_icmp .ge 59, 3) := by decide +kernel
theorem dX11_grows_115 : decode cX11_grows 115 = .ok (.aload_n 0, 1) := by decide +kernel
theorem dX11_grows_116 : decode cX11_grows 116 = .ok (.aload_n 0, 1) := by decide +kernel
theorem dX11_grows_117 : decode cX11_grows 117 = .ok (.getfield 24, 3) := by decide +kernel
theorem dX11_grows_120 : decode cX11_grows 120 = .ok (.iload 6, 2) := by decide +kernel
theorem dX11_grows_122 : decode cX11_grows 122 = .ok (.iaload, 1) := by decide +kernel
theorem dX11_grows_123 : decode cX11_grows 123 = .ok (.iconst 0, 1) := by decide +kernel
theorem dX11_grows_124 : decode cX11_grows 124 = .ok (.invokevirtual 158, 3) := by decide +kernel
theorem dX11_grows_127 : decode cX11_grows 127 = .ok (.istore 7, 2) := by decide +kernel
theorem dX11_grows_129 : decode cX11_grows 129 = .ok (.iload 7, 2) := by decide +kernel
theorem dX11_grows_131 : decode cX11_grows 131 = .ok (.bipush (-7), 2) := by decide +kernel
theorem dX11_grows_133 : decode cX11_grows 133 = .ok (.if_icmp .eq 32, 3) := by decide +kernel
theorem dX11_grows_136 : decode cX11_grows 136 = .ok (.aload_n 0, 1) := by decide +kernel
theorem dX11_grows_137 : decode cX11_grows 137 = .ok (.getfield 75, 3) := by decide +kernel
theorem dX11_grows_140 : decode cX11_grows 140 = .ok (.iload 7, 2) := by decide +kernel
theorem dX11_grows_142 : decode cX11_grows 142 = .ok (.baload, 1) := by decide +kernel
theorem dX11_grows_143 : decode cX11_grows 143 = .ok (.ifCond .ne 22, 3) := by decide +kernel
theorem dX11_grows_146 : decode cX11_grows 146 = .ok (.aload_n 0, 1) := by decide +kernel
theorem dX11_grows_147 : decode cX11_grows 147 = .ok (.getfield 75, 3) := by decide +kernel
theorem dX11_grows_150 : decode cX11_grows 150 = .ok (.iload 7, 2) := by decide +kernel
theorem dX11_grows_152 : decode cX11_grows 152 = .ok (.iconst 1, 1) := by decide +kernel
theorem dX11_grows_153 : decode cX11_grows 153 = .ok (.bastore, 1) := by decide +kernel
theorem dX11_grows_154 : decode cX11_grows 154 = .ok (.aload_n 0, 1) := by decide +kernel
theorem dX11_grows_155 : decode cX11_grows 155 = .ok (.getfield 24, 3) := by decide +kernel
theorem dX11_grows_158 : decode cX11_grows 158 = .ok (.iload_n 2, 1) := by decide +kernel
theorem dX11_grows_159 : decode cX11_grows 159 = .ok (.iload 7, 2) := by decide +kernel
theorem dX11_grows_161 : decode cX11_grows 161 = .ok (.iastore, 1) := by decide +kernel
theorem dX11_grows_162 : decode cX11_grows 162 = .ok (.iinc 2 1, 3) := by decide +kernel
theorem dX11_grows_165 : decode cX11_grows 165 = .ok (.iinc 6 1, 3) := by decide +kernel
theorem dX11_grows_168 : decode cX11_grows 168 = .ok (.goto (-60), 3) := by decide +kernel
theorem dX11_grows_171 : decode cX11_grows 171 = .ok (.iload 5, 2) := by decide +kernel
theorem dX11_grows_173 : decode cX11_grows 173 = .ok (.istore_n 3, 1) := by decide +kernel
theorem dX11_grows_174 : decode cX11_grows 174 = .ok (.iinc 4 1, 3) := by decide +kernel
theorem dX11_grows_177 : decode cX11_grows 177 = .ok (.goto (-81), 3) := by decide +kernel
theorem dX11_grows_180 : decode cX11_grows 180 = .ok (.iload_n 2, 1) := by decide +kernel
theorem dX11_grows_181 : decode cX11_grows 181 = .ok (.ireturn, 1) := by decide +kernel
theorem dX11_were_0 : decode cX11_were 0 = .ok (.iload_n 1, 1) := by decide +kernel
theorem dX11_were_1 : decode cX11_were 1 = .ok (.iload_n 2, 1) := by decide +kernel
theorem dX11_were_2 : decode cX11_were 2 = .ok (.iload_n 3, 1) := by decide +kernel
theorem dX11_were_3 : decode cX11_were 3 = .ok (.invokestatic 109, 3) := by decide +kernel
theorem dX11_were_6 : decode cX11_were 6 = .ok (.ifCond .eq 21, 3) := by decide +kernel
theorem dX11_were_9 : decode cX11_were 9 = .ok (.iload 4, 2) := by decide +kernel
theorem dX11_were_11 : decode cX11_were 11 = .ok (.iload 5, 2) := by decide +kernel
theorem dX11_were_13 : decode cX11_were 13 = .ok (.invokestatic 123, 3) := by decide +kernel
theorem dX11_were_16 : decode cX11_were 16 = .ok (.ifCond .eq 11, 3) := by decide +kernel
theorem dX11_were_19 : decode cX11_were 19 = .ok (.iload 6, 2) := by decide +kernel
theorem dX11_were_21 : decode cX11_were 21 = .ok (.invokestatic 103, 3) := by decide +kernel
theorem dX11_were_24 : decode cX11_were 24 = .ok (.ifCond .ne 7, 3) := by decide +kernel
theorem dX11_were_27 : decode cX11_were 27 = .ok (.ldc2_w 149, 3) := by decide +kernel
theorem dX11_were_30 : decode cX11_were 30 = .ok (.lreturn, 1) := by decide +kernel
theorem dX11_were_31 : decode cX11_were 31 = .ok (.iload_n 1, 1) := by decide +kernel
theorem dX11_were_32 : decode cX11_were 32 = .ok (.iload_n 2, 1) := by decide +kernel
theorem dX11_were_33 : decode cX11_were 33 = .ok (.iload_n 3, 1) := by decide +kernel
theorem dX11_were_34 : decode cX11_were 34 = .ok (.invokestatic 115, 3) := by decide +kernel
theorem dX11_were_37 : decode cX11_were 37 = .ok (.istore 7, 2) := by decide +kernel
theorem dX11_were_39 : decode cX11_were 39 = .ok (.aload_n 0, 1) := by decide +kernel
theorem dX11_were_40 : decode cX11_were 40 = .ok (.getfield 11, 3) := by decide +kernel
theorem dX11_were_43 : decode cX11_were 43 = .ok (.iload 7, 2) := by decide +kernel
theorem dX11_were_45 : decode cX11_were 45 = .ok (.iaload, 1) := by decide +kernel
theorem dX11_were_46 : decode cX11_were 46 = .ok (.istore 8, 2) := by decide +kernel
theorem dX11_were_48 : decode cX11_were 48 = .ok (.lconst 0, 1) := by decide +kernel
theorem dX11_were_49 : decode cX11_were 49 = .ok (.lstore 9, 2) := by decide +kernel
theorem dX11_were_51 : decode cX11_were 51 = .ok (.iconst 0, 1) := by decide +kernel
theorem dX11_were_52 : decode cX11_were 52 = .ok (.istore 11, 2) := by decide +kernel
theorem dX11_were_54 : decode cX11_were 54 = .ok (.iload 11, 2) := by decide +kernel
theorem dX11_were_56 : decode cX11_were 56 = .ok (.bipush 31, 2) := by decide +kernel
theorem dX11_were_58 : decode cX11_were 58 = .ok (.if_icmp .ge 44, 3) := by decide +kernel
theorem dX11_were_61 : decode cX11_were 61 = .ok (.aload_n 0, 1) := by decide +kernel
theorem dX11_were_62 : decode cX11_were 62 = .ok (.getfield 11, 3) := by decide +kernel
theorem dX11_were_65 : decode cX11_were 65 = .ok (.iload 7, 2) := by decide +kernel
theorem dX11_were_67 : decode cX11_were 67 = .ok (.iload 11, 2) := by decide +kernel
theorem dX11_were_69 : decode cX11_were 69 = .ok (.iastore, 1) := by decide +kernel
theorem dX11_were_70 : decode cX11_were 70 = .ok (.lload 9, 2) := by decide +kernel
theorem dX11_were_72 : decode cX11_were 72 = .ok (.aload_n 0, 1) := by decide +kernel
theorem dX11_were_73 : decode cX11_were 73 = .ok (.iload 4, 2) := by decide +kernel
theorem dX11_were_75 : decode cX11_were 75 = .ok (.iload 5, 2) := by decide +kernel
theorem dX11_were_77 : decode cX11_were 77 = .ok (.invokevirtual 133, 3) := by decide +kernel
theorem dX11_were_80 : decode cX11_were 80 = .ok (.iload 6, 2) := by decide +kernel
theorem dX11_were_82 : decode cX11_were 82 = .ok (.if_icmp .ne 10, 3) := by decide +kernel
theorem dX11_were_85 : decode cX11_were 85 = .ok (.lconst 1, 1) := by decide +kernel
theorem dX11_were_86 : decode cX11_were 86 = .ok (.iload 11, 2) := by decide +kernel
theorem dX11_were_88 : decode cX11_were 88 = .ok (.lshl, 1) := by decide +kernel
theorem dX11_were_89 : decode cX11_were 89 = .ok (.goto 4, 3) := by decide +kernel
theorem dX11_were_92 : decode cX11_were 92 = .ok (.lconst 0, 1) := by decide +kernel
theorem dX11_were_93 : decode cX11_were 93 = .ok (.lor, 1) := by decide +kernel
theorem dX11_were_94 : decode cX11_were 94 = .ok (.lstore 9, 2) := by decide +kernel
theorem dX11_were_96 : decode cX11_were 96 = .ok (.iinc 11 1, 3) := by decide +kernel
theorem dX11_were_99 : decode cX11_were 99 = .ok (.goto (-45), 3) := by decide +kernel
theorem dX11_were_102 : decode cX11_were 102 = .ok (.aload_n 0, 1) := by decide +kernel
theorem dX11_were_103 : decode cX11_were 103 = .ok (.getfield 11, 3) := by decide +kernel
theorem dX11_were_106 : decode cX11_were 106 = .ok (.iload 7, 2) := by decide +kernel
theorem dX11_were_108 : decode cX11_were 108 = .ok (.iload 8, 2) := by decide +kernel
theorem dX11_were_110 : decode cX11_were 110 = .ok (.iastore, 1) := by decide +kernel
theorem dX11_were_111 : decode cX11_were 111 = .ok (.lload 9, 2) := by decide +kernel
theorem dX11_were_113 : decode cX11_were 113 = .ok (.lreturn, 1) := by decide +kernel
theorem dX11_common_0 : decode cX11_common 0 = .ok (.iload_n 1, 1) := by decide +kernel
theorem dX11_common_1 : decode cX11_common 1 = .ok (.ifCond .ne 7, 3) := by decide +kernel
theorem dX11_common_4 : decode cX11_common 4 = .ok (.iload_n 0, 1) := by decide +kernel
theorem dX11_common_5 : decode cX11_common 5 = .ok (.goto 10, 3) := by decide +kernel
theorem dX11_common_8 : decode cX11_common 8 = .ok (.iload_n 1, 1) := by decide +kernel
theorem dX11_common_9 : decode cX11_common 9 = .ok (.iload_n 0, 1) := by decide +kernel
theorem dX11_common_10 : decode cX11_common 10 = .ok (.iload_n 1, 1) := by decide +kernel
theorem dX11_common_11 : decode cX11_common 11 = .ok (.irem, 1) := by decide +kernel
theorem dX11_common_12 : decode cX11_common 12 = .ok (.invokestatic 229, 3) := by decide +kernel
theorem dX11_common_15 : decode cX11_common 15 = .ok (.ireturn, 1) := by decide +kernel
theorem dX11_odds_0 : decode cX11_odds 0 = .ok (.iload_n 1, 1) := by decide +kernel
theorem dX11_odds_1 : decode cX11_odds 1 = .ok (.invokestatic 103, 3) := by decide +kernel
theorem dX11_odds_4 : decode cX11_odds 4 = .ok (.ifCond .eq 26, 3) := by decide +kernel
theorem dX11_odds_7 : decode cX11_odds 7 = .ok (.iload_n 3, 1) := by decide +kernel
theorem dX11_odds_8 : decode cX11_odds 8 = .ok (.i2l, 1) := by decide +kernel
theorem dX11_odds_9 : decode cX11_odds 9 = .ok (.lconst 1, 1) := by decide +kernel
theorem dX11_odds_10 : decode cX11_odds 10 = .ok (.ldc2_w 113, 3) := by decide +kernel
theorem dX11_odds_13 : decode cX11_odds 13 = .ok (.invokestatic 99, 3) := by decide +kernel
theorem dX11_odds_16 : decode cX11_odds 16 = .ok (.ifCond .eq 14, 3) := by decide +kernel
theorem dX11_odds_19 : decode cX11_odds 19 = .ok (.iload 4, 2) := by decide +kernel
theorem dX11_odds_21 : decode cX11_odds 21 = .ok (.i2l, 1) := by decide +kernel
theorem dX11_odds_22 : decode cX11_odds 22 = .ok (.lconst 0, 1) := by decide +kernel
theorem dX11_odds_23 : decode cX11_odds 23 = .ok (.lconst 1, 1) := by decide +kernel
theorem dX11_odds_24 : decode cX11_odds 24 = .ok (.invokestatic 99, 3) := by decide +kernel
theorem dX11_odds_27 : decode cX11_odds 27 = .ok (.ifCond .ne 7, 3) := by decide +kernel
theorem dX11_odds_30 : decode cX11_odds 30 = .ok (.ldc2_w 149, 3) := by decide +kernel
theorem dX11_odds_33 : decode cX11_odds 33 = .ok (.lreturn, 1) := by decide +kernel
theorem dX11_odds_34 : decode cX11_odds 34 = .ok (.iconst 0, 1) := by decide +kernel
theorem dX11_odds_35 : decode cX11_odds 35 = .ok (.istore 5, 2) := by decide +kernel
theorem dX11_odds_37 : decode cX11_odds 37 = .ok (.iconst 0, 1) := by decide +kernel
theorem dX11_odds_38 : decode cX11_odds 38 = .ok (.istore 6, 2) := by decide +kernel
theorem dX11_odds_40 : decode cX11_odds 40 = .ok (.iload 6, 2) := by decide +kernel
theorem dX11_odds_42 : decode cX11_odds 42 = .ok (.iload_n 3, 1) := by decide +kernel
theorem dX11_odds_43 : decode cX11_odds 43 = .ok (.if_icmp .ge 71, 3) := by decide +kernel
theorem dX11_odds_46 : decode cX11_odds 46 = .ok (.iload_n 2, 1) := by decide +kernel
theorem dX11_odds_47 : decode cX11_odds 47 = .ok (.iload 6, 2) := by decide +kernel
theorem dX11_odds_49 : decode cX11_odds 49 = .ok (.iadd, 1) := by decide +kernel
theorem dX11_odds_50 : decode cX11_odds 50 = .ok (.ldc 232, 2) := by decide +kernel
theorem dX11_odds_52 : decode cX11_odds 52 = .ok (.imul, 1) := by decide +kernel
theorem dX11_odds_53 : decode cX11_odds 53 = .ok (.sipush 12345, 3) := by decide +kernel
theorem dX11_odds_56 : decode cX11_odds 56 = .ok (.iadd, 1) := by decide +kernel
theorem dX11_odds_57 : decode cX11_odds 57 = .ok (.istore 7, 2) := by decide +kernel
theorem dX11_odds_59 : decode cX11_odds 59 = .ok (.iload 7, 2) := by decide +kernel
theorem dX11_odds_61 : decode cX11_odds 61 = .ok (.bipush 16, 2) := by decide +kernel
theorem dX11_odds_63 : decode cX11_odds 63 = .ok (.iushr, 1) := by decide +kernel
theorem dX11_odds_64 : decode cX11_odds 64 = .ok (.bipush 32, 2) := by decide +kernel
theorem dX11_odds_66 : decode cX11_odds 66 = .ok (.irem, 1) := by decide +kernel
theorem dX11_odds_67 : decode cX11_odds 67 = .ok (.istore 8, 2) := by decide +kernel
theorem dX11_odds_69 : decode cX11_odds 69 = .ok (.iload 7, 2) := by decide +kernel
theorem dX11_odds_71 : decode cX11_odds 71 = .ok (.ldc 232, 2) := by decide +kernel
theorem dX11_odds_73 : decode cX11_odds 73 = .ok (.imul, 1) := by decide +kernel
theorem dX11_odds_74 : decode cX11_odds 74 = .ok (.sipush 12345, 3) := by decide +kernel
theorem dX11_odds_77 : decode cX11_odds 77 = .ok (.iadd, 1) := by decide +kernel
theorem dX11_odds_78 : decode cX11_odds 78 = .ok (.istore 7, 2) := by decide +kernel
theorem dX11_odds_80 : decode cX11_odds 80 = .ok (.iload 5, 2) := by decide +kernel
theorem dX11_odds_82 : decode cX11_odds 82 = .ok (.aload_n 0, 1) := by decide +kernel
theorem dX11_odds_83 : decode cX11_odds 83 = .ok (.iload 8, 2) := by decide +kernel
theorem dX11_odds_85 : decode cX11_odds 85 = .ok (.iload 7, 2) := by decide +kernel
theorem dX11_odds_87 : decode cX11_odds 87 = .ok (.bipush 16, 2) := by decide +kernel
theorem dX11_odds_89 : decode cX11_odds 89 = .ok (.iushr, 1) := by decide +kernel
theorem dX11_odds_90 : decode cX11_odds 90 = .ok (.bipush 32, 2) := by decide +kernel
theorem dX11_odds_92 : decode cX11_odds 92 = .ok (.irem, 1) := by decide +kernel
theorem dX11_odds_93 : decode cX11_odds 93 = .ok (.invokevirtual 133, 3) := by decide +kernel
theorem dX11_odds_96 : decode cX11_odds 96 = .ok (.iload_n 1, 1) := by decide +kernel
theorem dX11_odds_97 : decode cX11_odds 97 = .ok (.if_icmp .ne 7, 3) := by decide +kernel
theorem dX11_odds_100 : decode cX11_odds 100 = .ok (.iconst 1, 1) := by decide +kernel
theorem dX11_odds_101 : decode cX11_odds 101 = .ok (.goto 4, 3) := by decide +kernel
theorem dX11_odds_104 : decode cX11_odds 104 = .ok (.iconst 0, 1) := by decide +kernel
theorem dX11_odds_105 : decode cX11_odds 105 = .ok (.iadd, 1) := by decide +kernel
theorem dX11_odds_106 : decode cX11_odds 106 = .ok (.istore 5, 2) := by decide +kernel
theorem dX11_odds_108 : decode cX11_odds 108 = .ok (.iinc 6 1, 3) := by decide +kernel
theorem dX11_odds_111 : decode cX11_odds 111 = .ok (.goto (-71), 3) := by decide +kernel
theorem dX11_odds_114 : decode cX11_odds 114 = .ok (.iload 4, 2) := by decide +kernel
theorem dX11_odds_116 : decode cX11_odds 116 = .ok (.ifCond .ne 8, 3) := by decide +kernel
theorem dX11_odds_119 : decode cX11_odds 119 = .ok (.iload 5, 2) := by decide +kernel
theorem dX11_odds_121 : decode cX11_odds 121 = .ok (.goto 4, 3) := by decide +kernel
theorem dX11_odds_124 : decode cX11_odds 124 = .ok (.iload_n 3, 1) := by decide +kernel
theorem dX11_odds_125 : decode cX11_odds 125 = .ok (.iload_n 3, 1) := by decide +kernel
theorem dX11_odds_126 : decode cX11_odds 126 = .ok (.iload 5, 2) := by decide +kernel
theorem dX11_odds_128 : decode cX11_odds 128 = .ok (.invokestatic 229, 3) := by decide +kernel
theorem dX11_odds_131 : decode cX11_odds 131 = .ok (.idiv, 1) := by decide +kernel
theorem dX11_odds_132 : decode cX11_odds 132 = .ok (.i2l, 1) := by decide +kernel
theorem dX11_odds_133 : decode cX11_odds 133 = .ok (.lreturn, 1) := by decide +kernel
theorem dX11_plan_0 : decode cX11_plan 0 = .ok (.iload_n 1, 1) := by decide +kernel
theorem dX11_plan_1 : decode cX11_plan 1 = .ok (.iconst (-1), 1) := by decide +kernel
theorem dX11_plan_2 : decode cX11_plan 2 = .ok (.if_icmp .ne 27, 3) := by decide +kernel
theorem dX11_plan_5 : decode cX11_plan 5 = .ok (.bipush 31, 2) := by decide +kernel
theorem dX11_plan_7 : decode cX11_plan 7 = .ok (.istore_n 3, 1) := by decide +kernel
theorem dX11_plan_8 : decode cX11_plan 8 = .ok (.iload_n 3, 1) := by decide +kernel
theorem dX11_plan_9 : decode cX11_plan 9 = .ok (.bipush 48, 2) := by decide +kernel
theorem dX11_plan_11 : decode cX11_plan 11 = .ok (.if_icmp .ge 16, 3) := by decide +kernel
theorem dX11_plan_14 : decode cX11_plan 14 = .ok (.aload_n 0, 1) := by decide +kernel
theorem dX11_plan_15 : decode cX11_plan 15 = .ok (.getfield 11, 3) := by decide +kernel
theorem dX11_plan_18 : decode cX11_plan 18 = .ok (.iload_n 3, 1) := by decide +kernel
theorem dX11_plan_19 : decode cX11_plan 19 = .ok (.iconst 0, 1) := by decide +kernel
theorem dX11_plan_20 : decode cX11_plan 20 = .ok (.iastore, 1) := by decide +kernel
theorem dX11_plan_21 : decode cX11_plan 21 = .ok (.iinc 3 1, 3) := by decide +kernel
theorem dX11_plan_24 : decode cX11_plan 24 = .ok (.goto (-16), 3) := by decide +kernel
theorem dX11_plan_27 : decode cX11_plan 27 = .ok (.iconst 0, 1) := by decide +kernel
theorem dX11_plan_28 : decode cX11_plan 28 = .ok (.ireturn, 1) := by decide +kernel
theorem dX11_plan_29 : decode cX11_plan 29 = .ok (.iload_n 1, 1) := by decide +kernel
theorem dX11_plan_30 : decode cX11_plan 30 = .ok (.i2l, 1) := by decide +kernel
theorem dX11_plan_31 : decode cX11_plan 31 = .ok (.lconst 0, 1) := by decide +kernel
theorem dX11_plan_32 : decode cX11_plan 32 = .ok (.ldc2_w 212, 3) := by decide +kernel
theorem dX11_plan_35 : decode cX11_plan 35 = .ok (.invokestatic 99, 3) := by decide +kernel
theorem dX11_plan_38 : decode cX11_plan 38 = .ok (.ifCond .ne 5, 3) := by decide +kernel
theorem dX11_plan_41 : decode cX11_plan 41 = .ok (.iconst (-1), 1) := by decide +kernel
theorem dX11_plan_42 : decode cX11_plan 42 = .ok (.ireturn, 1) := by decide +kernel
theorem dX11_plan_43 : decode cX11_plan 43 = .ok (.iload_n 1, 1) := by decide +kernel
theorem dX11_plan_44 : decode cX11_plan 44 = .ok (.iconst 2, 1) := by decide +kernel
theorem dX11_plan_45 : decode cX11_plan 45 = .ok (.if_icmp .ge 15, 3) := by decide +kernel
theorem dX11_plan_48 : decode cX11_plan 48 = .ok (.iload_n 2, 1) := by decide +kernel
theorem dX11_plan_49 : decode cX11_plan 49 = .ok (.i2l, 1) := by decide +kernel
theorem dX11_plan_50 : decode cX11_plan 50 = .ok (.lconst 1, 1) := by decide +kernel
theorem dX11_plan_51 : decode cX11_plan 51 = .ok (.ldc2_w 233, 3) := by decide +kernel
theorem dX11_plan_54 : decode cX11_plan 54 = .ok (.invokestatic 99, 3) := by decide +kernel
theorem dX11_plan_57 : decode cX11_plan 57 = .ok (.ifCond .eq 18, 3) := by decide +kernel
theorem dX11_plan_60 : decode cX11_plan 60 = .ok (.iload_n 1, 1) := by decide +kernel
theorem dX11_plan_61 : decode cX11_plan 61 = .ok (.iconst 2, 1) := by decide +kernel
theorem dX11_plan_62 : decode cX11_plan 62 = .ok (.if_icmp .ne 16, 3) := by decide +kernel
theorem dX11_plan_65 : decode cX11_plan 65 = .ok (.iload_n 2, 1) := by decide +kernel
theorem dX11_plan_66 : decode cX11_plan 66 = .ok (.i2l, 1) := by decide +kernel
theorem dX11_plan_67 : decode cX11_plan 67 = .ok (.lconst 0, 1) := by decide +kernel
theorem dX11_plan_68 : decode cX11_plan 68 = .ok (.lconst 1, 1) := by decide +kernel
theorem dX11_plan_69 : decode cX11_plan 69 = .ok (.invokestatic 99, 3) := by decide +kernel
theorem dX11_plan_72 : decode cX11_plan 72 = .ok (.ifCond .ne 6, 3) := by decide +kernel
theorem dX11_plan_75 : decode cX11_plan 75 = .ok (.bipush (-2), 2) := by decide +kernel
theorem dX11_plan_77 : decode cX11_plan 77 = .ok (.ireturn, 1) := by decide +kernel
theorem dX11_plan_78 : decode cX11_plan 78 = .ok (.aload_n 0, 1) := by decide +kernel
theorem dX11_plan_79 : decode cX11_plan 79 = .ok (.getfield 11, 3) := by decide +kernel
theorem dX11_plan_82 : decode cX11_plan 82 = .ok (.bipush 31, 2) := by decide +kernel
theorem dX11_plan_84 : decode cX11_plan 84 = .ok (.iaload, 1) := by decide +kernel
theorem dX11_plan_85 : decode cX11_plan 85 = .ok (.bipush 8, 2) := by decide +kernel
theorem dX11_plan_87 : decode cX11_plan 87 = .ok (.if_icmp .ne 6, 3) := by decide +kernel
theorem dX11_plan_90 : decode cX11_plan 90 = .ok (.bipush (-4), 2) := by decide +kernel
theorem dX11_plan_92 : decode cX11_plan 92 = .ok (.ireturn, 1) := by decide +kernel
theorem dX11_plan_93 : decode cX11_plan 93 = .ok (.aload_n 0, 1) := by decide +kernel
theorem dX11_plan_94 : decode cX11_plan 94 = .ok (.getfield 11, 3) := by decide +kernel
theorem dX11_plan_97 : decode cX11_plan 97 = .ok (.bipush 32, 2) := by decide +kernel
theorem dX11_plan_99 : decode cX11_plan 99 = .ok (.aload_n 0, 1) := by decide +kernel
theorem dX11_plan_100 : decode cX11_plan 100 = .ok (.getfield 11, 3) := by decide +kernel
theorem dX11_plan_103 : decode cX11_plan 103 = .ok (.bipush 31, 2) := by decide +kernel
theorem dX11_plan_105 : decode cX11_plan 105 = .ok (.iaload, 1) := by decide +kernel
theorem dX11_plan_106 : decode cX11_plan 106 = .ok (.iadd, 1) := by decide +kernel
theorem dX11_plan_107 : decode cX11_plan 107 = .ok (.iload_n 1, 1) := by decide +kernel
theorem dX11_plan_108 : decode cX11_plan 108 = .ok (.iastore, 1) := by decide +kernel
theorem dX11_plan_109 : decode cX11_plan 109 = .ok (.aload_n 0, 1) := by decide +kernel
theorem dX11_plan_110 : decode cX11_plan 110 = .ok (.getfield 11, 3) := by decide +kernel
theorem dX11_plan_113 : decode cX11_plan 113 = .ok (.bipush 40, 2) := by decide +kernel
theorem dX11_plan_115 : decode cX11_plan 115 = .ok (.aload_n 0, 1) := by decide +kernel
theorem dX11_plan_116 : decode cX11_plan 116 = .ok (.getfield 11, 3) := by decide +kernel
theorem dX11_plan_119 : decode cX11_plan 119 = .ok (.bipush 31, 2) := by decide +kernel
theorem dX11_plan_121 : decode cX11_plan 121 = .ok (.iaload, 1) := by decide +kernel
theorem dX11_plan_122 : decode cX11_plan 122 = .ok (.iadd, 1) := by decide +kernel
theorem dX11_plan_123 : decode cX11_plan 123 = .ok (.iload_n 2, 1) := by decide +kernel
theorem dX11_plan_124 : decode cX11_plan 124 = .ok (.iastore, 1) := by decide +kernel
theorem dX11_plan_125 : decode cX11_plan 125 = .ok (.aload_n 0, 1) := by decide +kernel
theorem dX11_plan_126 : decode cX11_plan 126 = .ok (.getfield 11, 3) := by decide +kernel
theorem dX11_plan_129 : decode cX11_plan 129 = .ok (.bipush 31, 2) := by decide +kernel
theorem dX11_plan_131 : decode cX11_plan 131 = .ok (.dup2, 1) := by decide +kernel
theorem dX11_plan_132 : decode cX11_plan 132 = .ok (.iaload, 1) := by decide +kernel
theorem dX11_plan_133 : decode cX11_plan 133 = .ok (.iconst 1, 1) := by decide +kernel
theorem dX11_plan_134 : decode cX11_plan 134 = .ok (.iadd, 1) := by decide +kernel
theorem dX11_plan_135 : decode cX11_plan 135 = .ok (.iastore, 1) := by decide +kernel
theorem dX11_plan_136 : decode cX11_plan 136 = .ok (.aload_n 0, 1) := by decide +kernel
theorem dX11_plan_137 : decode cX11_plan 137 = .ok (.getfield 11, 3) := by decide +kernel
theorem dX11_plan_140 : decode cX11_plan 140 = .ok (.bipush 31, 2) := by decide +kernel
theorem dX11_plan_142 : decode cX11_plan 142 = .ok (.iaload, 1) := by decide +kernel
theorem dX11_plan_143 : decode cX11_plan 143 = .ok (.ireturn, 1) := by decide +kernel
theorem dX11_ends_0 : decode cX11_ends 0 = .ok (.iload_n 1, 1) := by decide +kernel
theorem dX11_ends_1 : decode cX11_ends 1 = .ok (.iload_n 2, 1) := by decide +kernel
theorem dX11_ends_2 : decode cX11_ends 2 = .ok (.invokestatic 123, 3) := by decide +kernel
theorem dX11_ends_5 : decode cX11_ends 5 = .ok (.ifCond .ne 5, 3) := by decide +kernel
theorem dX11_ends_8 : decode cX11_ends 8 = .ok (.iconst (-1), 1) := by decide +kernel
theorem dX11_ends_9 : decode cX11_ends 9 = .ok (.ireturn, 1) := by decide +kernel
theorem dX11_ends_10 : decode cX11_ends 10 = .ok (.bipush 32, 2) := by decide +kernel
theorem dX11_ends_12 : decode cX11_ends 12 = .ok (.iload_n 1, 1) := by decide +kernel
theorem dX11_ends_13 : decode cX11_ends 13 = .ok (.imul, 1) := by decide +kernel
theorem dX11_ends_14 : decode cX11_ends 14 = .ok (.iload_n 2, 1) := by decide +kernel
theorem dX11_ends_15 : decode cX11_ends 15 = .ok (.iadd, 1) := by decide +kernel
theorem dX11_ends_16 : decode cX11_ends 16 = .ok (.istore_n 3, 1) := by decide +kernel
theorem dX11_ends_17 : decode cX11_ends 17 = .ok (.iconst 0, 1) := by decide +kernel
theorem dX11_ends_18 : decode cX11_ends 18 = .ok (.istore 4, 2) := by decide +kernel
theorem dX11_ends_20 : decode cX11_ends 20 = .ok (.iload 4, 2) := by decide +kernel
theorem dX11_ends_22 : decode cX11_ends 22 = .ok (.aload_n 0, 1) := by decide +kernel
theorem dX11_ends_23 : decode cX11_ends 23 = .ok (.getfield 11, 3) := by decide +kernel
theorem dX11_ends_26 : decode cX11_ends 26 = .ok (.bipush 31, 2) := by decide +kernel
theorem dX11_ends_28 : decode cX11_ends 28 = .ok (.iaload, 1) := by decide +kernel
theorem dX11_ends_29 : decode cX11_ends 29 = .ok (.if_icmp .ge 151, 3) := by decide +kernel
theorem dX11_ends_32 : decode cX11_ends 32 = .ok (.aload_n 0, 1) := by decide +kernel
theorem dX11_ends_33 : decode cX11_ends 33 = .ok (.getfield 11, 3) := by decide +kernel
theorem dX11_ends_36 : decode cX11_ends 36 = .ok (.bipush 32, 2) := by decide +kernel
theorem dX11_ends_38 : decode cX11_ends 38 = .ok (.iload 4, 2) := by decide +kernel
theorem dX11_ends_40 : decode cX11_ends 40 = .ok (.iadd, 1) := by decide +kernel
theorem dX11_ends_41 : decode cX11_ends 41 = .ok (.iaload, 1) := by decide +kernel
theorem dX11_ends_42 : decode cX11_ends 42 = .ok (.istore 5, 2) := by decide +kernel
theorem dX11_ends_44 : decode cX11_ends 44 = .ok (.iconst 1, 1) := by decide +kernel
theorem dX11_ends_45 : decode cX11_ends 45 = .ok (.istore 6, 2) := by decide +kernel
theorem dX11_ends_47 : decode cX11_ends 47 = .ok (.iload 5, 2) := by decide +kernel
theorem dX11_ends_49 : decode cX11_ends 49 = .ok (.iconst 2, 1) := by decide +kernel
theorem dX11_ends_50 : decode cX11_ends 50 = .ok (.if_icmp .ge 16, 3) := by decide +kernel
theorem dX11_ends_53 : decode cX11_ends 53 = .ok (.aload_n 0, 1) := by decide +kernel
theorem dX11_ends_54 : decode cX11_ends 54 = .ok (.getfield 11, 3) := by decide +kernel
theorem dX11_ends_57 : decode cX11_ends 57 = .ok (.bipush 40, 2) := by decide +kernel
theorem dX11_ends_59 : decode cX11_ends 59 = .ok (.iload 4, 2) := by decide +kernel
theorem dX11_ends_61 : decode cX11_ends 61 = .ok (.iadd, 1) := by decide +kernel
theorem dX11_ends_62 : decode cX11_ends 62 = .ok (.iaload, 1) := by decide +kernel
theorem dX11_ends_63 : decode cX11_ends 63 = .ok (.goto 4, 3) := by decide +kernel
theorem dX11_ends_66 : decode cX11_ends 66 = .ok (.iconst 1, 1) := by decide +kernel
theorem dX11_ends_67 : decode cX11_ends 67 = .ok (.istore 7, 2) := by decide +kernel
theorem dX11_ends_69 : decode cX11_ends 69 = .ok (.iload 7, 2) := by decide +kernel
theorem dX11_ends_71 : decode cX11_ends 71 = .ok (.ifCond .le 103, 3) := by decide +kernel
theorem dX11_ends_74 : decode cX11_ends 74 = .ok (.iload 6, 2) := by decide +kernel
theorem dX11_ends_76 : decode cX11_ends 76 = .ok (.ifCond .eq 98, 3) := by decide +kernel
theorem dX11_ends_79 : decode cX11_ends 79 = .ok (.iload 5, 2) := by decide +kernel
theorem dX11_ends_81 : decode cX11_ends 81 = .ok (.iconst 2, 1) := by decide +kernel
theorem dX11_ends_82 : decode cX11_ends 82 = .ok (.if_icmp .ge 22, 3) := by decide +kernel
theorem dX11_ends_85 : decode cX11_ends 85 = .ok (.aload_n 0, 1) := by decide +kernel
theorem dX11_ends_86 : decode cX11_ends 86 = .ok (.iload_n 3, 1) := by decide +kernel
theorem dX11_ends_87 : decode cX11_ends 87 = .ok (.iload 5, 2) := by decide +kernel
theorem dX11_ends_89 : decode cX11_ends 89 = .ok (.iconst 1, 1) := by decide +kernel
theorem dX11_ends_90 : decode cX11_ends 90 = .ok (.if_icmp .ne 7, 3) := by decide +kernel
theorem dX11_ends_93 : decode cX11_ends 93 = .ok (.iconst 1, 1) := by decide +kernel
theorem dX11_ends_94 : decode cX11_ends 94 = .ok (.goto 4, 3) := by decide +kernel
theorem dX11_ends_97 : decode cX11_ends 97 = .ok (.iconst 0, 1) := by decide +kernel
theorem dX11_ends_98 : decode cX11_ends 98 = .ok (.invokevirtual 158, 3) := by decide +kernel
theorem dX11_ends_101 : decode cX11_ends 101 = .ok (.goto 39, 3) := by decide +kernel
theorem dX11_ends_104 : decode cX11_ends 104 = .ok (.iload 5, 2) := by decide +kernel
theorem dX11_ends_106 : decode cX11_ends 106 = .ok (.iconst 2, 1) := by decide +kernel
theorem dX11_ends_107 : decode cX11_ends 107 = .ok (.if_icmp .ne 21, 3) := by decide +kernel
theorem dX11_ends_110 : decode cX11_ends 110 = .ok (.aload_n 0, 1) := by decide +kernel
theorem dX11_ends_111 : decode cX11_ends 111 = .ok (.iload_n 3, 1) := by decide +kernel
theorem dX11_ends_112 : decode cX11_ends 112 = .ok (.aload_n 0, 1) := by decide +kernel
theorem dX11_ends_113 : decode cX11_ends 113 = .ok (.getfield 11, 3) := by decide +kernel
theorem dX11_ends_116 : decode cX11_ends 116 = .ok (.bipush 40, 2) := by decide +kernel
theorem dX11_ends_118 : decode cX11_ends 118 = .ok (.iload 4, 2) := by decide +kernel
theorem dX11_ends_120 : decode cX11_ends 120 = .ok (.iadd, 1) := by decide +kernel
theorem dX11_ends_121 : decode cX11_ends 121 = .ok (.iaload, 1) := by decide +kernel
theorem dX11_ends_122 : decode cX11_ends 122 = .ok (.invokevirtual 151, 3) := by decide +kernel
theorem dX11_ends_125 : decode cX11_ends 125 = .ok (.goto 15, 3) := by decide +kernel
theorem dX11_ends_128 : decode cX11_ends 128 = .ok (.bipush 32, 2) := by decide +kernel
theorem dX11_ends_130 : decode cX11_ends 130 = .ok (.iload_n 3, 1) := by decide +kernel
theorem dX11_ends_131 : decode cX11_ends 131 = .ok (.bipush 32, 2) := by decide +kernel
theorem dX11_ends_133 : decode cX11_ends 133 = .ok (.irem, 1) := by decide +kernel
theorem dX11_ends_134 : decode cX11_ends 134 = .ok (.imul, 1) := by decide +kernel
theorem dX11_ends_135 : decode cX11_ends 135 = .ok (.iload_n 3, 1) := by decide +kernel
theorem dX11_ends_136 : decode cX11_ends 136 = .ok (.bipush 32, 2) := by decide +kernel
theorem dX11_ends_138 : decode cX11_ends 138 = .ok (.idiv, 1) := by decide +kernel
theorem dX11_ends_139 : decode cX11_ends 139 = .ok (.iadd, 1) := by decide +kernel
theorem dX11_ends_140 : decode cX11_ends 140 = .ok (.istore 8, 2) := by decide +kernel
theorem dX11_ends_142 : decode cX11_ends 142 = .ok (.iload 8, 2) := by decide +kernel
theorem dX11_ends_144 : decode cX11_ends 144 = .ok (.bipush (-7), 2) := by decide +kernel
theorem dX11_ends_146 : decode cX11_ends 146 = .ok (.if_icmp .eq 7, 3) := by decide +kernel
theorem dX11_ends_149 : decode cX11_ends 149 = .ok (.iconst 1, 1) := by decide +kernel
theorem dX11_ends_150 : decode cX11_ends 150 = .ok (.goto 4, 3) := by decide +kernel
theorem dX11_ends_153 : decode cX11_ends 153 = .ok (.iconst 0, 1) := by decide +kernel
theorem dX11_ends_154 : decode cX11_ends 154 = .ok (.istore 6, 2) := by decide +kernel
theorem dX11_ends_156 : decode cX11_ends 156 = .ok (.iload 6, 2) := by decide +kernel
theorem dX11_ends_158 : decode cX11_ends 158 = .ok (.ifCond .eq 8, 3) := by decide +kernel
theorem dX11_ends_161 : decode cX11_ends 161 = .ok (.iload 8, 2) := by decide +kernel
theorem dX11_ends_163 : decode cX11_ends 163 = .ok (.goto 4, 3) := by decide +kernel
theorem dX11_ends_166 : decode cX11_ends 166 = .ok (.iload_n 3, 1) := by decide +kernel
theorem dX11_ends_167 : decode cX11_ends 167 = .ok (.istore_n 3, 1) := by decide +kernel
theorem dX11_ends_168 : decode cX11_ends 168 = .ok (.iinc 7 (-1), 3) := by decide +kernel
theorem dX11_ends_171 : decode cX11_ends 171 = .ok (.goto (-102), 3) := by decide +kernel
theorem dX11_ends_174 : decode cX11_ends 174 = .ok (.iinc 4 1, 3) := by decide +kernel
theorem dX11_ends_177 : decode cX11_ends 177 = .ok (.goto (-157), 3) := by decide +kernel
theorem dX11_ends_180 : decode cX11_ends 180 = .ok (.iload_n 3, 1) := by decide +kernel
theorem dX11_ends_181 : decode cX11_ends 181 = .ok (.ireturn, 1) := by decide +kernel
theorem dX11_feed_0 : decode cX11_feed 0 = .ok (.iload_n 1, 1) := by decide +kernel
theorem dX11_feed_1 : decode cX11_feed 1 = .ok (.i2l, 1) := by decide +kernel
theorem dX11_feed_2 : decode cX11_feed 2 = .ok (.lconst 1, 1) := by decide +kernel
theorem dX11_feed_3 : decode cX11_feed 3 = .ok (.ldc2_w 235, 3) := by decide +kernel
theorem dX11_feed_6 : decode cX11_feed 6 = .ok (.invokestatic 99, 3) := by decide +kernel
theorem dX11_feed_9 : decode cX11_feed 9 = .ok (.ifCond .ne 6, 3) := by decide +kernel
theorem dX11_feed_12 : decode cX11_feed 12 = .ok (.bipush (-2), 2) := by decide +kernel
theorem dX11_feed_14 : decode cX11_feed 14 = .ok (.ireturn, 1) := by decide +kernel
theorem dX11_feed_15 : decode cX11_feed 15 = .ok (.aload_n 0, 1) := by decide +kernel
theorem dX11_feed_16 : decode cX11_feed 16 = .ok (.getfield 237, 3) := by decide +kernel
theorem dX11_feed_19 : decode cX11_feed 19 = .ok (.bipush 60, 2) := by decide +kernel
theorem dX11_feed_21 : decode cX11_feed 21 = .ok (.if_icmp .ne 6, 3) := by decide +kernel
theorem dX11_feed_24 : decode cX11_feed 24 = .ok (.bipush (-4), 2) := by decide +kernel
theorem dX11_feed_26 : decode cX11_feed 26 = .ok (.ireturn, 1) := by decide +kernel
theorem dX11_feed_27 : decode cX11_feed 27 = .ok (.aload_n 0, 1) := by decide +kernel
theorem dX11_feed_28 : decode cX11_feed 28 = .ok (.getfield 78, 3) := by decide +kernel
theorem dX11_feed_31 : decode cX11_feed 31 = .ok (.aload_n 0, 1) := by decide +kernel
theorem dX11_feed_32 : decode cX11_feed 32 = .ok (.getfield 237, 3) := by decide +kernel
theorem dX11_feed_35 : decode cX11_feed 35 = .ok (.iload_n 1, 1) := by decide +kernel
theorem dX11_feed_36 : decode cX11_feed 36 = .ok (.iastore, 1) := by decide +kernel
theorem dX11_feed_37 : decode cX11_feed 37 = .ok (.aload_n 0, 1) := by decide +kernel
theorem dX11_feed_38 : decode cX11_feed 38 = .ok (.dup, 1) := by decide +kernel
theorem dX11_feed_39 : decode cX11_feed 39 = .ok (.getfield 237, 3) := by decide +kernel
theorem dX11_feed_42 : decode cX11_feed 42 = .ok (.iconst 1, 1) := by decide +kernel
theorem dX11_feed_43 : decode cX11_feed 43 = .ok (.iadd, 1) := by decide +kernel
theorem dX11_feed_44 : decode cX11_feed 44 = .ok (.putfield 237, 3) := by decide +kernel
theorem dX11_feed_47 : decode cX11_feed 47 = .ok (.aload_n 0, 1) := by decide +kernel
theorem dX11_feed_48 : decode cX11_feed 48 = .ok (.getfield 237, 3) := by decide +kernel
theorem dX11_feed_51 : decode cX11_feed 51 = .ok (.ireturn, 1) := by decide +kernel
theorem dX11_here_0 : decode cX11_here 0 = .ok (.aload_n 0, 1) := by decide +kernel
theorem dX11_here_1 : decode cX11_here 1 = .ok (.getfield 241, 3) := by decide +kernel
theorem dX11_here_4 : decode cX11_here 4 = .ok (.aload_n 0, 1) := by decide +kernel
theorem dX11_here_5 : decode cX11_here 5 = .ok (.getfield 237, 3) := by decide +kernel
theorem dX11_here_8 : decode cX11_here 8 = .ok (.if_icmp .ge 15, 3) := by decide +kernel
theorem dX11_here_11 : decode cX11_here 11 = .ok (.aload_n 0, 1) := by decide +kernel
theorem dX11_here_12 : decode cX11_here 12 = .ok (.getfield 78, 3) := by decide +kernel
theorem dX11_here_15 : decode cX11_here 15 = .ok (.aload_n 0, 1) := by decide +kernel
theorem dX11_here_16 : decode cX11_here 16 = .ok (.getfield 241, 3) := by decide +kernel
theorem dX11_here_19 : decode cX11_here 19 = .ok (.iaload, 1) := by decide +kernel
theorem dX11_here_20 : decode cX11_here 20 = .ok (.goto 4, 3) := by decide +kernel
theorem dX11_here_23 : decode cX11_here 23 = .ok (.iconst 0, 1) := by decide +kernel
theorem dX11_here_24 : decode cX11_here 24 = .ok (.ireturn, 1) := by decide +kernel
theorem dX11_often_0 : decode cX11_often 0 = .ok (.iconst 0, 1) := by decide +kernel
theorem dX11_often_1 : decode cX11_often 1 = .ok (.istore_n 2, 1) := by decide +kernel
theorem dX11_often_2 : decode cX11_often 2 = .ok (.iload_n 2, 1) := by decide +kernel
theorem dX11_often_3 : decode cX11_often 3 = .ok (.iconst 2, 1) := by decide +kernel
theorem dX11_often_4 : decode cX11_often 4 = .ok (.if_icmp .ge 27, 3) := by decide +kernel
theorem dX11_often_7 : decode cX11_often 7 = .ok (.aload_n 0, 1) := by decide +kernel
theorem dX11_often_8 : decode cX11_often 8 = .ok (.invokevirtual 244, 3) := by decide +kernel
theorem dX11_often_11 : decode cX11_often 11 = .ok (.iload_n 1, 1) := by decide +kernel
theorem dX11_often_12 : decode cX11_often 12 = .ok (.if_icmp .ne 19, 3) := by decide +kernel
theorem dX11_often_15 : decode cX11_often 15 = .ok (.iinc 2 1, 3) := by decide +kernel
theorem dX11_often_18 : decode cX11_often 18 = .ok (.aload_n 0, 1) := by decide +kernel
theorem dX11_often_19 : decode cX11_often 19 = .ok (.dup, 1) := by decide +kernel
theorem dX11_often_20 : decode cX11_often 20 = .ok (.getfield 241, 3) := by decide +kernel
theorem dX11_often_23 : decode cX11_often 23 = .ok (.iconst 1, 1) := by decide +kernel
theorem dX11_often_24 : decode cX11_often 24 = .ok (.iadd, 1) := by decide +kernel
theorem dX11_often_25 : decode cX11_often 25 = .ok (.putfield 241, 3) := by decide +kernel
theorem dX11_often_28 : decode cX11_often 28 = .ok (.goto (-26), 3) := by decide +kernel
theorem dX11_often_31 : decode cX11_often 31 = .ok (.iload_n 2, 1) := by decide +kernel
theorem dX11_often_32 : decode cX11_often 32 = .ok (.ireturn, 1) := by decide +kernel
theorem dX11_isTerm_0 : decode cX11_isTerm 0 = .ok (.aload_n 0, 1) := by decide +kernel
theorem dX11_isTerm_1 : decode cX11_isTerm 1 = .ok (.invokevirtual 244, 3) := by decide +kernel
theorem dX11_isTerm_4 : decode cX11_isTerm 4 = .ok (.i2l, 1) := by decide +kernel
theorem dX11_isTerm_5 : decode cX11_isTerm 5 = .ok (.ldc2_w 248, 3) := by decide +kernel
theorem dX11_isTerm_8 : decode cX11_isTerm 8 = .ok (.ldc2_w 250, 3) := by decide +kernel
theorem dX11_isTerm_11 : decode cX11_isTerm 11 = .ok (.invokestatic 99, 3) := by decide +kernel
theorem dX11_isTerm_14 : decode cX11_isTerm 14 = .ok (.ifCond .ne 5, 3) := by decide +kernel
theorem dX11_isTerm_17 : decode cX11_isTerm 17 = .ok (.iconst 0, 1) := by decide +kernel
theorem dX11_isTerm_18 : decode cX11_isTerm 18 = .ok (.ireturn, 1) := by decide +kernel
theorem dX11_isTerm_19 : decode cX11_isTerm 19 = .ok (.aload_n 0, 1) := by decide +kernel
theorem dX11_isTerm_20 : decode cX11_isTerm 20 = .ok (.invokevirtual 244, 3) := by decide +kernel
theorem dX11_isTerm_23 : decode cX11_isTerm 23 = .ok (.bipush 48, 2) := by decide +kernel
theorem dX11_isTerm_25 : decode cX11_isTerm 25 = .ok (.isub, 1) := by decide +kernel
theorem dX11_isTerm_26 : decode cX11_isTerm 26 = .ok (.istore_n 1, 1) := by decide +kernel
theorem dX11_isTerm_27 : decode cX11_isTerm 27 = .ok (.aload_n 0, 1) := by decide +kernel
theorem dX11_isTerm_28 : decode cX11_isTerm 28 = .ok (.dup, 1) := by decide +kernel
theorem dX11_isTerm_29 : decode cX11_isTerm 29 = .ok (.getfield 241, 3) := by decide +kernel
theorem dX11_isTerm_32 : decode cX11_isTerm 32 = .ok (.iconst 1, 1) := by decide +kernel
theorem dX11_isTerm_33 : decode cX11_isTerm 33 = .ok (.iadd, 1) := by decide +kernel
theorem dX11_isTerm_34 : decode cX11_isTerm 34 = .ok (.putfield 241, 3) := by decide +kernel
theorem dX11_isTerm_37 : decode cX11_isTerm 37 = .ok (.aload_n 0, 1) := by decide +kernel
theorem dX11_isTerm_38 : decode cX11_isTerm 38 = .ok (.invokevirtual 244, 3) := by decide +kernel
theorem dX11_isTerm_41 : decode cX11_isTerm 41 = .ok (.i2l, 1) := by decide +kernel
theorem dX11_isTerm_42 : decode cX11_isTerm 42 = .ok (.ldc2_w 252, 3) := by decide +kernel
theorem dX11_isTerm_45 : decode cX11_isTerm 45 = .ok (.ldc2_w 250, 3) := by decide +kernel
theorem dX11_isTerm_48 : decode cX11_isTerm 48 = .ok (.invokestatic 99, 3) := by decide +kernel
theorem dX11_isTerm_51 : decode cX11_isTerm 51 = .ok (.ifCond .eq 34, 3) := by decide +kernel
theorem dX11_isTerm_54 : decode cX11_isTerm 54 = .ok (.bipush 10, 2) := by decide +kernel
theorem dX11_isTerm_56 : decode cX11_isTerm 56 = .ok (.iload_n 1, 1) := by decide +kernel
theorem dX11_isTerm_57 : decode cX11_isTerm 57 = .ok (.imul, 1) := by decide +kernel
theorem dX11_isTerm_58 : decode cX11_isTerm 58 = .ok (.aload_n 0, 1) := by decide +kernel
theorem dX11_isTerm_59 : decode cX11_isTerm 59 = .ok (.invokevirtual 244, 3) := by decide +kernel
theorem dX11_isTerm_62 : decode cX11_isTerm 62 = .ok (.iadd, 1) := by decide +kernel
theorem dX11_isTerm_63 : decode cX11_isTerm 63 = .ok (.bipush 48, 2) := by decide +kernel
theorem dX11_isTerm_65 : decode cX11_isTerm 65 = .ok (.isub, 1) := by decide +kernel
theorem dX11_isTerm_66 : decode cX11_isTerm 66 = .ok (.istore_n 1, 1) := by decide +kernel
theorem dX11_isTerm_67 : decode cX11_isTerm 67 = .ok (.iload_n 1, 1) := by decide +kernel
theorem dX11_isTerm_68 : decode cX11_isTerm 68 = .ok (.bipush 31, 2) := by decide +kernel
theorem dX11_isTerm_70 : decode cX11_isTerm 70 = .ok (.if_icmp .lt 5, 3) := by decide +kernel
theorem dX11_isTerm_73 : decode cX11_isTerm 73 = .ok (.iconst 0, 1) := by decide +kernel
theorem dX11_isTerm_74 : decode cX11_isTerm 74 = .ok (.ireturn, 1) := by decide +kernel
theorem dX11_isTerm_75 : decode cX11_isTerm 75 = .ok (.aload_n 0, 1) := by decide +kernel
theorem dX11_isTerm_76 : decode cX11_isTerm 76 = .ok (.dup, 1) := by decide +kernel
theorem dX11_isTerm_77 : decode cX11_isTerm 77 = .ok (.getfield 241, 3) := by decide +kernel
theorem dX11_isTerm_80 : decode cX11_isTerm 80 = .ok (.iconst 1, 1) := by decide +kernel
theorem dX11_isTerm_81 : decode cX11_isTerm 81 = .ok (.iadd, 1) := by decide +kernel
theorem dX11_isTerm_82 : decode cX11_isTerm 82 = .ok (.putfield 241, 3) := by decide +kernel
theorem dX11_isTerm_85 : decode cX11_isTerm 85 = .ok (.aload_n 0, 1) := by decide +kernel
theorem dX11_isTerm_86 : decode cX11_isTerm 86 = .ok (.bipush 120, 2) := by decide +kernel
theorem dX11_isTerm_88 : decode cX11_isTerm 88 = .ok (.invokevirtual 254, 3) := by decide +kernel
theorem dX11_isTerm_91 : decode cX11_isTerm 91 = .ok (.istore_n 2, 1) := by decide +kernel
theorem dX11_isTerm_92 : decode cX11_isTerm 92 = .ok (.aload_n 0, 1) := by decide +kernel
theorem dX11_isTerm_93 : decode cX11_isTerm 93 = .ok (.bipush 121, 2) := by decide +kernel
theorem dX11_isTerm_95 : decode cX11_isTerm 95 = .ok (.invokevirtual 254, 3) := by decide +kernel
theorem dX11_isTerm_98 : decode cX11_isTerm 98 = .ok (.istore_n 3, 1) := by decide +kernel
theorem dX11_isTerm_99 : decode cX11_isTerm 99 = .ok (.aload_n 0, 1) := by decide +kernel
theorem dX11_isTerm_100 : decode cX11_isTerm 100 = .ok (.getfield 81, 3) := by decide +kernel
theorem dX11_isTerm_103 : decode cX11_isTerm 103 = .ok (.iconst 3, 1) := by decide +kernel
theorem dX11_isTerm_104 : decode cX11_isTerm 104 = .ok (.iload_n 2, 1) := by decide +kernel
theorem dX11_isTerm_105 : decode cX11_isTerm 105 = .ok (.imul, 1) := by decide +kernel
theorem dX11_isTerm_106 : decode cX11_isTerm 106 = .ok (.iload_n 3, 1) := by decide +kernel
theorem dX11_isTerm_107 : decode cX11_isTerm 107 = .ok (.iadd, 1) := by decide +kernel
theorem dX11_isTerm_108 : decode cX11_isTerm 108 = .ok (.aload_n 0, 1) := by decide +kernel
theorem dX11_isTerm_109 : decode cX11_isTerm 109 = .ok (.getfield 81, 3) := by decide +kernel
theorem dX11_isTerm_112 : decode cX11_isTerm 112 = .ok (.iconst 3, 1) := by decide +kernel
theorem dX11_isTerm_113 : decode cX11_isTerm 113 = .ok (.iload_n 2, 1) := by decide +kernel
theorem dX11_isTerm_114 : decode cX11_isTerm 114 = .ok (.imul, 1) := by decide +kernel
theorem dX11_isTerm_115 : decode cX11_isTerm 115 = .ok (.iload_n 3, 1) := by decide +kernel
theorem dX11_isTerm_116 : decode cX11_isTerm 116 = .ok (.iadd, 1) := by decide +kernel
theorem dX11_isTerm_117 : decode cX11_isTerm 117 = .ok (.iaload, 1) := by decide +kernel
theorem dX11_isTerm_118 : decode cX11_isTerm 118 = .ok (.iload_n 1, 1) := by decide +kernel
theorem dX11_isTerm_119 : decode cX11_isTerm 119 = .ok (.iadd, 1) := by decide +kernel
theorem dX11_isTerm_120 : decode cX11_isTerm 120 = .ok (.bipush 31, 2) := by decide +kernel
theorem dX11_isTerm_122 : decode cX11_isTerm 122 = .ok (.irem, 1) := by decide +kernel
theorem dX11_isTerm_123 : decode cX11_isTerm 123 = .ok (.iastore, 1) := by decide +kernel
theorem dX11_isTerm_124 : decode cX11_isTerm 124 = .ok (.iconst 1, 1) := by decide +kernel
theorem dX11_isTerm_125 : decode cX11_isTerm 125 = .ok (.ireturn, 1) := by decide +kernel
theorem dX11_table_0 : decode cX11_table 0 = .ok (.iload_n 1, 1) := by decide +kernel
theorem dX11_table_1 : decode cX11_table 1 = .ok (.i2l, 1) := by decide +kernel
theorem dX11_table_2 : decode cX11_table 2 = .ok (.lconst 0, 1) := by decide +kernel
theorem dX11_table_3 : decode cX11_table 3 = .ok (.lconst 1, 1) := by decide +kernel
theorem dX11_table_4 : decode cX11_table 4 = .ok (.invokestatic 99, 3) := by decide +kernel
theorem dX11_table_7 : decode cX11_table 7 = .ok (.ifCond .ne 5, 3) := by decide +kernel
theorem dX11_table_10 : decode cX11_table 10 = .ok (.iconst (-1), 1) := by decide +kernel
theorem dX11_table_11 : decode cX11_table 11 = .ok (.ireturn, 1) := by decide +kernel
theorem dX11_table_12 : decode cX11_table 12 = .ok (.iconst 0, 1) := by decide +kernel
theorem dX11_table_13 : decode cX11_table 13 = .ok (.istore_n 2, 1) := by decide +kernel
theorem dX11_table_14 : decode cX11_table 14 = .ok (.iload_n 2, 1) := by decide +kernel
theorem dX11_table_15 : decode cX11_table 15 = .ok (.bipush 9, 2) := by decide +kernel
theorem dX11_table_17 : decode cX11_table 17 = .ok (.if_icmp .ge 16, 3) := by decide +kernel
theorem dX11_table_20 : decode cX11_table 20 = .ok (.aload_n 0, 1) := by decide +kernel
theorem dX11_table_21 : decode cX11_table 21 = .ok (.getfield 81, 3) := by decide +kernel
theorem dX11_table_24 : decode cX11_table 24 = .ok (.iload_n 2, 1) := by decide +kernel
theorem dX11_table_25 : decode cX11_table 25 = .ok (.iconst 0, 1) := by decide +kernel
theorem dX11_table_26 : decode cX11_table 26 = .ok (.iastore, 1) := by decide +kernel
theorem dX11_table_27 : decode cX11_table 27 = .ok (.iinc 2 1, 3) := by decide +kernel
theorem dX11_table_30 : decode cX11_table 30 = .ok (.goto (-16), 3) := by decide +kernel
theorem dX11_table_33 : decode cX11_table 33 = .ok (.aload_n 0, 1) := by decide +kernel
theorem dX11_table_34 : decode cX11_table 34 = .ok (.iconst 0, 1) := by decide +kernel
theorem dX11_table_35 : decode cX11_table 35 = .ok (.putfield 241, 3) := by decide +kernel
theorem dX11_table_38 : decode cX11_table 38 = .ok (.iconst 0, 1) := by decide +kernel
theorem dX11_table_39 : decode cX11_table 39 = .ok (.istore_n 2, 1) := by decide +kernel
theorem dX11_table_40 : decode cX11_table 40 = .ok (.iconst 1, 1) := by decide +kernel
theorem dX11_table_41 : decode cX11_table 41 = .ok (.istore_n 3, 1) := by decide +kernel
theorem dX11_table_42 : decode cX11_table 42 = .ok (.iload_n 3, 1) := by decide +kernel
theorem dX11_table_43 : decode cX11_table 43 = .ok (.ifCond .eq 78, 3) := by decide +kernel
theorem dX11_table_46 : decode cX11_table 46 = .ok (.iload_n 2, 1) := by decide +kernel
theorem dX11_table_47 : decode cX11_table 47 = .ok (.ifCond .eq 14, 3) := by decide +kernel
theorem dX11_table_50 : decode cX11_table 50 = .ok (.aload_n 0, 1) := by decide +kernel
theorem dX11_table_51 : decode cX11_table 51 = .ok (.getfield 241, 3) := by decide +kernel
theorem dX11_table_54 : decode cX11_table 54 = .ok (.aload_n 0, 1) := by decide +kernel
theorem dX11_table_55 : decode cX11_table 55 = .ok (.getfield 237, 3) := by decide +kernel
theorem dX11_table_58 : decode cX11_table 58 = .ok (.if_icmp .ge 63, 3) := by decide +kernel
theorem dX11_table_61 : decode cX11_table 61 = .ok (.iload_n 2, 1) := by decide +kernel
theorem dX11_table_62 : decode cX11_table 62 = .ok (.ifCond .le 36, 3) := by decide +kernel
theorem dX11_table_65 : decode cX11_table 65 = .ok (.aload_n 0, 1) := by decide +kernel
theorem dX11_table_66 : decode cX11_table 66 = .ok (.invokevirtual 244, 3) := by decide +kernel
theorem dX11_table_69 : decode cX11_table 69 = .ok (.bipush 43, 2) := by decide +kernel
theorem dX11_table_71 : decode cX11_table 71 = .ok (.if_icmp .ne 7, 3) := by decide +kernel
theorem dX11_table_74 : decode cX11_table 74 = .ok (.iconst 1, 1) := by decide +kernel
theorem dX11_table_75 : decode cX11_table 75 = .ok (.goto 4, 3) := by decide +kernel
theorem dX11_table_78 : decode cX11_table 78 = .ok (.iconst 0, 1) := by decide +kernel
theorem dX11_table_79 : decode cX11_table 79 = .ok (.istore_n 3, 1) := by decide +kernel
theorem dX11_table_80 : decode cX11_table 80 = .ok (.aload_n 0, 1) := by decide +kernel
theorem dX11_table_81 : decode cX11_table 81 = .ok (.dup, 1) := by decide +kernel
theorem dX11_table_82 : decode cX11_table 82 = .ok (.getfield 241, 3) := by decide +kernel
theorem dX11_table_85 : decode cX11_table 85 = .ok (.iload_n 3, 1) := by decide +kernel
theorem dX11_table_86 : decode cX11_table 86 = .ok (.ifCond .eq 7, 3) := by decide +kernel
theorem dX11_table_89 : decode cX11_table 89 = .ok (.iconst 1, 1) := by decide +kernel
theorem dX11_table_90 : decode cX11_table 90 = .ok (.goto 4, 3) := by decide +kernel
theorem dX11_table_93 : decode cX11_table 93 = .ok (.iconst 0, 1) := by decide +kernel
theorem dX11_table_94 : decode cX11_table 94 = .ok (.iadd, 1) := by decide +kernel
theorem dX11_table_95 : decode cX11_table 95 = .ok (.putfield 241, 3) := by decide +kernel
theorem dX11_table_98 : decode cX11_table 98 = .ok (.iload_n 3, 1) := by decide +kernel
theorem dX11_table_99 : decode cX11_table 99 = .ok (.ifCond .eq 14, 3) := by decide +kernel
theorem dX11_table_102 : decode cX11_table 102 = .ok (.aload_n 0, 1) := by decide +kernel
theorem dX11_table_103 : decode cX11_table 103 = .ok (.invokevirtual 256, 3) := by decide +kernel
theorem dX11_table_106 : decode cX11_table 106 = .ok (.ifCond .eq 7, 3) := by decide +kernel
theorem dX11_table_109 : decode cX11_table 109 = .ok (.iconst 1, 1) := by decide +kernel
theorem dX11_table_110 : decode cX11_table 110 = .ok (.goto 4, 3) := by decide +kernel
theorem dX11_table_113 : decode cX11_table 113 = .ok (.iconst 0, 1) := by decide +kernel
theorem dX11_table_114 : decode cX11_table 114 = .ok (.istore_n 3, 1) := by decide +kernel
theorem dX11_table_115 : decode cX11_table 115 = .ok (.iinc 2 1, 3) := by decide +kernel
theorem dX11_table_118 : decode cX11_table 118 = .ok (.goto (-76), 3) := by decide +kernel
theorem dX11_table_121 : decode cX11_table 121 = .ok (.aload_n 0, 1) := by decide +kernel
theorem dX11_table_122 : decode cX11_table 122 = .ok (.iconst 0, 1) := by decide +kernel
theorem dX11_table_123 : decode cX11_table 123 = .ok (.putfield 237, 3) := by decide +kernel
theorem dX11_table_126 : decode cX11_table 126 = .ok (.iload_n 3, 1) := by decide +kernel
theorem dX11_table_127 : decode cX11_table 127 = .ok (.ifCond .ne 11, 3) := by decide +kernel
theorem dX11_table_130 : decode cX11_table 130 = .ok (.bipush (-100), 2) := by decide +kernel
theorem dX11_table_132 : decode cX11_table 132 = .ok (.aload_n 0, 1) := by decide +kernel
theorem dX11_table_133 : decode cX11_table 133 = .ok (.getfield 241, 3) := by decide +kernel
theorem dX11_table_136 : decode cX11_table 136 = .ok (.isub, 1) := by decide +kernel
theorem dX11_table_137 : decode cX11_table 137 = .ok (.ireturn, 1) := by decide +kernel
theorem dX11_table_138 : decode cX11_table 138 = .ok (.iconst 0, 1) := by decide +kernel
theorem dX11_table_139 : decode cX11_table 139 = .ok (.istore 4, 2) := by decide +kernel
theorem dX11_table_141 : decode cX11_table 141 = .ok (.iload 4, 2) := by decide +kernel
theorem dX11_table_143 : decode cX11_table 143 = .ok (.bipush 9, 2) := by decide +kernel
theorem dX11_table_145 : decode cX11_table 145 = .ok (.if_icmp .ge 28, 3) := by decide +kernel
theorem dX11_table_148 : decode cX11_table 148 = .ok (.aload_n 0, 1) := by decide +kernel
theorem dX11_table_149 : decode cX11_table 149 = .ok (.getfield 11, 3) := by decide +kernel
theorem dX11_table_152 : decode cX11_table 152 = .ok (.bipush 9, 2) := by decide +kernel
theorem dX11_table_154 : decode cX11_table 154 = .ok (.iload_n 1, 1) := by decide +kernel
theorem dX11_table_155 : decode cX11_table 155 = .ok (.imul, 1) := by decide +kernel
theorem dX11_table_156 : decode cX11_table 156 = .ok (.iload 4, 2) := by decide +kernel
theorem dX11_table_158 : decode cX11_table 158 = .ok (.iadd, 1) := by decide +kernel
theorem dX11_table_159 : decode cX11_table 159 = .ok (.aload_n 0, 1) := by decide +kernel
theorem dX11_table_160 : decode cX11_table 160 = .ok (.getfield 81, 3) := by decide +kernel
theorem dX11_table_163 : decode cX11_table 163 = .ok (.iload 4, 2) := by decide +kernel
theorem dX11_table_165 : decode cX11_table 165 = .ok (.iaload, 1) := by decide +kernel
theorem dX11_table_166 : decode cX11_table 166 = .ok (.iastore, 1) := by decide +kernel
theorem dX11_table_167 : decode cX11_table 167 = .ok (.iinc 4 1, 3) := by decide +kernel
theorem dX11_table_170 : decode cX11_table 170 = .ok (.goto (-29), 3) := by decide +kernel
theorem dX11_table_173 : decode cX11_table 173 = .ok (.iload_n 2, 1) := by decide +kernel
theorem dX11_table_174 : decode cX11_table 174 = .ok (.ireturn, 1) := by decide +kernel
theorem dX11_writes_0 : decode cX11_writes 0 = .ok (.iconst 0, 1) := by decide +kernel
theorem dX11_writes_1 : decode cX11_writes 1 = .ok (.istore_n 3, 1) := by decide +kernel
theorem dX11_writes_2 : decode cX11_writes 2 = .ok (.iload_n 3, 1) := by decide +kernel
theorem dX11_writes_3 : decode cX11_writes 3 = .ok (.iload_n 2, 1) := by decide +kernel
theorem dX11_writes_4 : decode cX11_writes 4 = .ok (.if_icmp .ge 29, 3) := by decide +kernel
theorem dX11_writes_7 : decode cX11_writes 7 = .ok (.aload_n 0, 1) := by decide +kernel
theorem dX11_writes_8 : decode cX11_writes 8 = .ok (.getfield 84, 3) := by decide +kernel
theorem dX11_writes_11 : decode cX11_writes 11 = .ok (.aload_n 0, 1) := by decide +kernel
theorem dX11_writes_12 : decode cX11_writes 12 = .ok (.getfield 260, 3) := by decide +kernel
theorem dX11_writes_15 : decode cX11_writes 15 = .ok (.iload_n 1, 1) := by decide +kernel
theorem dX11_writes_16 : decode cX11_writes 16 = .ok (.iastore, 1) := by decide +kernel
theorem dX11_writes_17 : decode cX11_writes 17 = .ok (.aload_n 0, 1) := by decide +kernel
theorem dX11_writes_18 : decode cX11_writes 18 = .ok (.dup, 1) := by decide +kernel
theorem dX11_writes_19 : decode cX11_writes 19 = .ok (.getfield 260, 3) := by decide +kernel
theorem dX11_writes_22 : decode cX11_writes 22 = .ok (.iconst 1, 1) := by decide +kernel
theorem dX11_writes_23 : decode cX11_writes 23 = .ok (.iadd, 1) := by decide +kernel
theorem dX11_writes_24 : decode cX11_writes 24 = .ok (.putfield 260, 3) := by decide +kernel
theorem dX11_writes_27 : decode cX11_writes 27 = .ok (.iinc 3 1, 3) := by decide +kernel
theorem dX11_writes_30 : decode cX11_writes 30 = .ok (.goto (-28), 3) := by decide +kernel
theorem dX11_writes_33 : decode cX11_writes 33 = .ok (.return_, 1) := by decide +kernel
theorem dX11_write_0 : decode cX11_write 0 = .ok (.iload_n 1, 1) := by decide +kernel
theorem dX11_write_1 : decode cX11_write 1 = .ok (.i2l, 1) := by decide +kernel
theorem dX11_write_2 : decode cX11_write 2 = .ok (.lconst 0, 1) := by decide +kernel
theorem dX11_write_3 : decode cX11_write 3 = .ok (.lconst 1, 1) := by decide +kernel
theorem dX11_write_4 : decode cX11_write 4 = .ok (.invokestatic 99, 3) := by decide +kernel
theorem dX11_write_7 : decode cX11_write 7 = .ok (.ifCond .ne 5, 3) := by decide +kernel
theorem dX11_write_10 : decode cX11_write 10 = .ok (.iconst (-1), 1) := by decide +kernel
theorem dX11_write_11 : decode cX11_write 11 = .ok (.ireturn, 1) := by decide +kernel
theorem dX11_write_12 : decode cX11_write 12 = .ok (.aload_n 0, 1) := by decide +kernel
theorem dX11_write_13 : decode cX11_write 13 = .ok (.iconst 0, 1) := by decide +kernel
theorem dX11_write_14 : decode cX11_write 14 = .ok (.putfield 260, 3) := by decide +kernel
theorem dX11_write_17 : decode cX11_write 17 = .ok (.bipush 8, 2) := by decide +kernel
theorem dX11_write_19 : decode cX11_write 19 = .ok (.istore_n 2, 1) := by decide +kernel
theorem dX11_write_20 : decode cX11_write 20 = .ok (.iload_n 2, 1) := by decide +kernel
theorem dX11_write_21 : decode cX11_write 21 = .ok (.ifCond .lt 95, 3) := by decide +kernel
theorem dX11_write_24 : decode cX11_write 24 = .ok (.aload_n 0, 1) := by decide +kernel
theorem dX11_write_25 : decode cX11_write 25 = .ok (.getfield 11, 3) := by decide +kernel
theorem dX11_write_28 : decode cX11_write 28 = .ok (.bipush 9, 2) := by decide +kernel
theorem dX11_write_30 : decode cX11_write 30 = .ok (.iload_n 1, 1) := by decide +kernel
theorem dX11_write_31 : decode cX11_write 31 = .ok (.imul, 1) := by decide +kernel
theorem dX11_write_32 : decode cX11_write 32 = .ok (.iload_n 2, 1) := by decide +kernel
theorem dX11_write_33 : decode cX11_write 33 = .ok (.iadd, 1) := by decide +kernel
theorem dX11_write_34 : decode cX11_write 34 = .ok (.iaload, 1) := by decide +kernel
theorem dX11_write_35 : decode cX11_write 35 = .ok (.istore_n 3, 1) := by decide +kernel
theorem dX11_write_36 : decode cX11_write 36 = .ok (.iload_n 3, 1) := by decide +kernel
theorem dX11_write_37 : decode cX11_write 37 = .ok (.ifCond .le 73, 3) := by decide +kernel
theorem dX11_write_40 : decode cX11_write 40 = .ok (.aload_n 0, 1) := by decide +kernel
theorem dX11_write_41 : decode cX11_write 41 = .ok (.bipush 43, 2) := by decide +kernel
theorem dX11_write_43 : decode cX11_write 43 = .ok (.aload_n 0, 1) := by decide +kernel
theorem dX11_write_44 : decode cX11_write 44 = .ok (.getfield 260, 3) := by decide +kernel
theorem dX11_write_47 : decode cX11_write 47 = .ok (.ifCond .le 7, 3) := by decide +kernel
theorem dX11_write_50 : decode cX11_write 50 = .ok (.iconst 1, 1) := by decide +kernel
theorem dX11_write_51 : decode cX11_write 51 = .ok (.goto 4, 3) := by decide +kernel
theorem dX11_write_54 : decode cX11_write 54 = .ok (.iconst 0, 1) := by decide +kernel
theorem dX11_write_55 : decode cX11_write 55 = .ok (.invokevirtual 263, 3) := by decide +kernel
theorem dX11_write_58 : decode cX11_write 58 = .ok (.aload_n 0, 1) := by decide +kernel
theorem dX11_write_59 : decode cX11_write 59 = .ok (.bipush 48, 2) := by decide +kernel
theorem dX11_write_61 : decode cX11_write 61 = .ok (.iload_n 3, 1) := by decide +kernel
theorem dX11_write_62 : decode cX11_write 62 = .ok (.bipush 10, 2) := by decide +kernel
theorem dX11_write_64 : decode cX11_write 64 = .ok (.idiv, 1) := by decide +kernel
theorem dX11_write_65 : decode cX11_write 65 = .ok (.iadd, 1) := by decide +kernel
theorem dX11_write_66 : decode cX11_write 66 = .ok (.iload_n 3, 1) := by decide +kernel
theorem dX11_write_67 : decode cX11_write 67 = .ok (.bipush 9, 2) := by decide +kernel
theorem dX11_write_69 : decode cX11_write 69 = .ok (.if_icmp .le 7, 3) := by decide +kernel
theorem dX11_write_72 : decode cX11_write 72 = .ok (.iconst 1, 1) := by decide +kernel
theorem dX11_write_73 : decode cX11_write 73 = .ok (.goto 4, 3) := by decide +kernel
theorem dX11_write_76 : decode cX11_write 76 = .ok (.iconst 0, 1) := by decide +kernel
theorem dX11_write_77 : decode cX11_write 77 = .ok (.invokevirtual 263, 3) := by decide +kernel
theorem dX11_write_80 : decode cX11_write 80 = .ok (.aload_n 0, 1) := by decide +kernel
theorem dX11_write_81 : decode cX11_write 81 = .ok (.bipush 48, 2) := by decide +kernel
theorem dX11_write_83 : decode cX11_write 83 = .ok (.iload_n 3, 1) := by decide +kernel
theorem dX11_write_84 : decode cX11_write 84 = .ok (.bipush 10, 2) := by decide +kernel
theorem dX11_write_86 : decode cX11_write 86 = .ok (.irem, 1) := by decide +kernel
theorem dX11_write_87 : decode cX11_write 87 = .ok (.iadd, 1) := by decide +kernel
theorem dX11_write_88 : decode cX11_write 88 = .ok (.iconst 1, 1) := by decide +kernel
theorem dX11_write_89 : decode cX11_write 89 = .ok (.invokevirtual 263, 3) := by decide +kernel
theorem dX11_write_92 : decode cX11_write 92 = .ok (.aload_n 0, 1) := by decide +kernel
theorem dX11_write_93 : decode cX11_write 93 = .ok (.bipush 120, 2) := by decide +kernel
theorem dX11_write_95 : decode cX11_write 95 = .ok (.iload_n 2, 1) := by decide +kernel
theorem dX11_write_96 : decode cX11_write 96 = .ok (.iconst 3, 1) := by decide +kernel
theorem dX11_write_97 : decode cX11_write 97 = .ok (.idiv, 1) := by decide +kernel
theorem dX11_write_98 : decode cX11_write 98 = .ok (.invokevirtual 263, 3) := by decide +kernel
theorem dX11_write_101 : decode cX11_write 101 = .ok (.aload_n 0, 1) := by decide +kernel
theorem dX11_write_102 : decode cX11_write 102 = .ok (.bipush 121, 2) := by decide +kernel
theorem dX11_write_104 : decode cX11_write 104 = .ok (.iload_n 2, 1) := by decide +kernel
theorem dX11_write_105 : decode cX11_write 105 = .ok (.iconst 3, 1) := by decide +kernel
theorem dX11_write_106 : decode cX11_write 106 = .ok (.irem, 1) := by decide +kernel
theorem dX11_write_107 : decode cX11_write 107 = .ok (.invokevirtual 263, 3) := by decide +kernel
theorem dX11_write_110 : decode cX11_write 110 = .ok (.iinc 2 (-1), 3) := by decide +kernel
theorem dX11_write_113 : decode cX11_write 113 = .ok (.goto (-93), 3) := by decide +kernel
theorem dX11_write_116 : decode cX11_write 116 = .ok (.aload_n 0, 1) := by decide +kernel
theorem dX11_write_117 : decode cX11_write 117 = .ok (.getfield 260, 3) := by decide +kernel
theorem dX11_write_120 : decode cX11_write 120 = .ok (.ireturn, 1) := by decide +kernel
theorem dX11_paper_0 : decode cX11_paper 0 = .ok (.iload_n 1, 1) := by decide +kernel
theorem dX11_paper_1 : decode cX11_paper 1 = .ok (.i2l, 1) := by decide +kernel
theorem dX11_paper_2 : decode cX11_paper 2 = .ok (.lconst 0, 1) := by decide +kernel
theorem dX11_paper_3 : decode cX11_paper 3 = .ok (.aload_n 0, 1) := by decide +kernel
theorem dX11_paper_4 : decode cX11_paper 4 = .ok (.getfield 260, 3) := by decide +kernel
theorem dX11_paper_7 : decode cX11_paper 7 = .ok (.iconst 1, 1) := by decide +kernel
theorem dX11_paper_8 : decode cX11_paper 8 = .ok (.isub, 1) := by decide +kernel
theorem dX11_paper_9 : decode cX11_paper 9 = .ok (.i2l, 1) := by decide +kernel
theorem dX11_paper_10 : decode cX11_paper 10 = .ok (.invokestatic 99, 3) := by decide +kernel
theorem dX11_paper_13 : decode cX11_paper 13 = .ok (.ifCond .eq 12, 3) := by decide +kernel
theorem dX11_paper_16 : decode cX11_paper 16 = .ok (.aload_n 0, 1) := by decide +kernel
theorem dX11_paper_17 : decode cX11_paper 17 = .ok (.getfield 84, 3) := by decide +kernel
theorem dX11_paper_20 : decode cX11_paper 20 = .ok (.iload_n 1, 1) := by decide +kernel
theorem dX11_paper_21 : decode cX11_paper 21 = .ok (.iaload, 1) := by decide +kernel
theorem dX11_paper_22 : decode cX11_paper 22 = .ok (.goto 4, 3) := by decide +kernel
theorem dX11_paper_25 : decode cX11_paper 25 = .ok (.iconst (-1), 1) := by decide +kernel
theorem dX11_paper_26 : decode cX11_paper 26 = .ok (.ireturn, 1) := by decide +kernel
theorem dX11_isList_0 : decode cX11_isList 0 = .ok (.iload_n 0, 1) := by decide +kernel
theorem dX11_isList_1 : decode cX11_isList 1 = .ok (.i2l, 1) := by decide +kernel
theorem dX11_isList_2 : decode cX11_isList 2 = .ok (.lconst 0, 1) := by decide +kernel
theorem dX11_isList_3 : decode cX11_isList 3 = .ok (.ldc2_w 212, 3) := by decide +kernel
theorem dX11_isList_6 : decode cX11_isList 6 = .ok (.invokestatic 99, 3) := by decide +kernel
theorem dX11_isList_9 : decode cX11_isList 9 = .ok (.ireturn, 1) := by decide +kernel
theorem dX11_judge_0 : decode cX11_judge 0 = .ok (.iload_n 1, 1) := by decide +kernel
theorem dX11_judge_1 : decode cX11_judge 1 = .ok (.invokestatic 267, 3) := by decide +kernel
theorem dX11_judge_4 : decode cX11_judge 4 = .ok (.ifCond .eq 11, 3) := by decide +kernel
theorem dX11_judge_7 : decode cX11_judge 7 = .ok (.iload_n 2, 1) := by decide +kernel
theorem dX11_judge_8 : decode cX11_judge 8 = .ok (.iload_n 3, 1) := by decide +kernel
theorem dX11_judge_9 : decode cX11_judge 9 = .ok (.invokestatic 123, 3) := by decide +kernel
theorem dX11_judge_12 : decode cX11_judge 12 = .ok (.ifCond .ne 5, 3) := by decide +kernel
theorem dX11_judge_15 : decode cX11_judge 15 = .ok (.iconst (-1), 1) := by decide +kernel
theorem dX11_judge_16 : decode cX11_judge 16 = .ok (.ireturn, 1) := by decide +kernel
theorem dX11_judge_17 : decode cX11_judge 17 = .ok (.aload_n 0, 1) := by decide +kernel
theorem dX11_judge_18 : decode cX11_judge 18 = .ok (.getfield 87, 3) := by decide +kernel
theorem dX11_judge_21 : decode cX11_judge 21 = .ok (.iload_n 1, 1) := by decide +kernel
theorem dX11_judge_22 : decode cX11_judge 22 = .ok (.iaload, 1) := by decide +kernel
theorem dX11_judge_23 : decode cX11_judge 23 = .ok (.ifCond .ge 6, 3) := by decide +kernel
theorem dX11_judge_26 : decode cX11_judge 26 = .ok (.bipush (-11), 2) := by decide +kernel
theorem dX11_judge_28 : decode cX11_judge 28 = .ok (.ireturn, 1) := by decide +kernel
theorem dX11_judge_29 : decode cX11_judge 29 = .ok (.bipush 32, 2) := by decide +kernel
theorem dX11_judge_31 : decode cX11_judge 31 = .ok (.iload_n 2, 1) := by decide +kernel
theorem dX11_judge_32 : decode cX11_judge 32 = .ok (.imul, 1) := by decide +kernel
theorem dX11_judge_33 : decode cX11_judge 33 = .ok (.iload_n 3, 1) := by decide +kernel
theorem dX11_judge_34 : decode cX11_judge 34 = .ok (.iadd, 1) := by decide +kernel
theorem dX11_judge_35 : decode cX11_judge 35 = .ok (.istore 4, 2) := by decide +kernel
theorem dX11_judge_37 : decode cX11_judge 37 = .ok (.iconst 0, 1) := by decide +kernel
theorem dX11_judge_38 : decode cX11_judge 38 = .ok (.istore 5, 2) := by decide +kernel
theorem dX11_judge_40 : decode cX11_judge 40 = .ok (.iload 5, 2) := by decide +kernel
theorem dX11_judge_42 : decode cX11_judge 42 = .ok (.aload_n 0, 1) := by decide +kernel
theorem dX11_judge_43 : decode cX11_judge 43 = .ok (.getfield 87, 3) := by decide +kernel
theorem dX11_judge_46 : decode cX11_judge 46 = .ok (.iload_n 1, 1) := by decide +kernel
theorem dX11_judge_47 : decode cX11_judge 47 = .ok (.iaload, 1) := by decide +kernel
theorem dX11_judge_48 : decode cX11_judge 48 = .ok (.if_icmp .ge 87, 3) := by decide +kernel
theorem dX11_judge_51 : decode cX11_judge 51 = .ok (.iload 5, 2) := by decide +kernel
theorem dX11_judge_53 : decode cX11_judge 53 = .ok (.iconst 2, 1) := by decide +kernel
theorem dX11_judge_54 : decode cX11_judge 54 = .ok (.irem, 1) := by decide +kernel
theorem dX11_judge_55 : decode cX11_judge 55 = .ok (.ifCond .ne 20, 3) := by decide +kernel
theorem dX11_judge_58 : decode cX11_judge 58 = .ok (.iload 4, 2) := by decide +kernel
theorem dX11_judge_60 : decode cX11_judge 60 = .ok (.bipush (-7), 2) := by decide +kernel
theorem dX11_judge_62 : decode cX11_judge 62 = .ok (.if_icmp .eq 13, 3) := by decide +kernel
theorem dX11_judge_65 : decode cX11_judge 65 = .ok (.aload_n 0, 1) := by decide +kernel
theorem dX11_judge_66 : decode cX11_judge 66 = .ok (.iload 4, 2) := by decide +kernel
theorem dX11_judge_68 : decode cX11_judge 68 = .ok (.iconst 0, 1) := by decide +kernel
theorem dX11_judge_69 : decode cX11_judge 69 = .ok (.invokevirtual 158, 3) := by decide +kernel
theorem dX11_judge_72 : decode cX11_judge 72 = .ok (.goto 5, 3) := by decide +kernel
theorem dX11_judge_75 : decode cX11_judge 75 = .ok (.iload 4, 2) := by decide +kernel
theorem dX11_judge_77 : decode cX11_judge 77 = .ok (.istore 4, 2) := by decide +kernel
theorem dX11_judge_79 : decode cX11_judge 79 = .ok (.iload 4, 2) := by decide +kernel
theorem dX11_judge_81 : decode cX11_judge 81 = .ok (.bipush (-7), 2) := by decide +kernel
theorem dX11_judge_83 : decode cX11_judge 83 = .ok (.if_icmp .ne 7, 3) := by decide +kernel
theorem dX11_judge_86 : decode cX11_judge 86 = .ok (.iconst (-1), 1) := by decide +kernel
theorem dX11_judge_87 : decode cX11_judge 87 = .ok (.goto 23, 3) := by decide +kernel
theorem dX11_judge_90 : decode cX11_judge 90 = .ok (.iload 5, 2) := by decide +kernel
theorem dX11_judge_92 : decode cX11_judge 92 = .ok (.iconst 2, 1) := by decide +kernel
theorem dX11_judge_93 : decode cX11_judge 93 = .ok (.irem, 1) := by decide +kernel
theorem dX11_judge_94 : decode cX11_judge 94 = .ok (.ifCond .ne 11, 3) := by decide +kernel
theorem dX11_judge_97 : decode cX11_judge 97 = .ok (.iload 4, 2) := by decide +kernel
theorem dX11_judge_99 : decode cX11_judge 99 = .ok (.bipush 32, 2) := by decide +kernel
theorem dX11_judge_101 : decode cX11_judge 101 = .ok (.idiv, 1) := by decide +kernel
theorem dX11_judge_102 : decode cX11_judge 102 = .ok (.goto 8, 3) := by decide +kernel
theorem dX11_judge_105 : decode cX11_judge 105 = .ok (.iload 4, 2) := by decide +kernel
theorem dX11_judge_107 : decode cX11_judge 107 = .ok (.bipush 32, 2) := by decide +kernel
theorem dX11_judge_109 : decode cX11_judge 109 = .ok (.irem, 1) := by decide +kernel
theorem dX11_judge_110 : decode cX11_judge 110 = .ok (.istore 6, 2) := by decide +kernel
theorem dX11_judge_112 : decode cX11_judge 112 = .ok (.aload_n 0, 1) := by decide +kernel
theorem dX11_judge_113 : decode cX11_judge 113 = .ok (.getfield 90, 3) := by decide +kernel
theorem dX11_judge_116 : decode cX11_judge 116 = .ok (.iload_n 1, 1) := by decide +kernel
theorem dX11_judge_117 : decode cX11_judge 117 = .ok (.aaload, 1) := by decide +kernel
theorem dX11_judge_118 : decode cX11_judge 118 = .ok (.iload 5, 2) := by decide +kernel
theorem dX11_judge_120 : decode cX11_judge 120 = .ok (.iaload, 1) := by decide +kernel
theorem dX11_judge_121 : decode cX11_judge 121 = .ok (.iload 6, 2) := by decide +kernel
theorem dX11_judge_123 : decode cX11_judge 123 = .ok (.if_icmp .eq 6, 3) := by decide +kernel
theorem dX11_judge_126 : decode cX11_judge 126 = .ok (.iload 5, 2) := by decide +kernel
theorem dX11_judge_128 : decode cX11_judge 128 = .ok (.ireturn, 1) := by decide +kernel
theorem dX11_judge_129 : decode cX11_judge 129 = .ok (.iinc 5 1, 3) := by decide +kernel
theorem dX11_judge_132 : decode cX11_judge 132 = .ok (.goto (-92), 3) := by decide +kernel
theorem dX11_judge_135 : decode cX11_judge 135 = .ok (.bipush (-5), 2) := by decide +kernel
theorem dX11_judge_137 : decode cX11_judge 137 = .ok (.ireturn, 1) := by decide +kernel
theorem dX11_list_0 : decode cX11_list 0 = .ok (.iload_n 1, 1) := by decide +kernel
theorem dX11_list_1 : decode cX11_list 1 = .ok (.invokestatic 267, 3) := by decide +kernel
theorem dX11_list_4 : decode cX11_list 4 = .ok (.ifCond .ne 5, 3) := by decide +kernel
theorem dX11_list_7 : decode cX11_list 7 = .ok (.iconst (-1), 1) := by decide +kernel
theorem dX11_list_8 : decode cX11_list 8 = .ok (.ireturn, 1) := by decide +kernel
theorem dX11_list_9 : decode cX11_list 9 = .ok (.iload_n 2, 1) := by decide +kernel
theorem dX11_list_10 : decode cX11_list 10 = .ok (.bipush 12, 2) := by decide +kernel
theorem dX11_list_12 : decode cX11_list 12 = .ok (.if_icmp .le 6, 3) := by decide +kernel
theorem dX11_list_15 : decode cX11_list 15 = .ok (.bipush (-2), 2) := by decide +kernel
theorem dX11_list_17 : decode cX11_list 17 = .ok (.ireturn, 1) := by decide +kernel
theorem dX11_list_18 : decode cX11_list 18 = .ok (.iload_n 2, 1) := by decide +kernel
theorem dX11_list_19 : decode cX11_list 19 = .ok (.ifCond .ge 6, 3) := by decide +kernel
theorem dX11_list_22 : decode cX11_list 22 = .ok (.bipush (-14), 2) := by decide +kernel
theorem dX11_list_24 : decode cX11_list 24 = .ok (.ireturn, 1) := by decide +kernel
theorem dX11_list_25 : decode cX11_list 25 = .ok (.aload_n 0, 1) := by decide +kernel
theorem dX11_list_26 : decode cX11_list 26 = .ok (.getfield 87, 3) := by decide +kernel
theorem dX11_list_29 : decode cX11_list 29 = .ok (.iload_n 1, 1) := by decide +kernel
theorem dX11_list_30 : decode cX11_list 30 = .ok (.iload_n 2, 1) := by decide +kernel
theorem dX11_list_31 : decode cX11_list 31 = .ok (.iastore, 1) := by decide +kernel
theorem dX11_list_32 : decode cX11_list 32 = .ok (.iconst 0, 1) := by decide +kernel
theorem dX11_list_33 : decode cX11_list 33 = .ok (.istore_n 3, 1) := by decide +kernel
theorem dX11_list_34 : decode cX11_list 34 = .ok (.iload_n 3, 1) := by decide +kernel
theorem dX11_list_35 : decode cX11_list 35 = .ok (.bipush 12, 2) := by decide +kernel
theorem dX11_list_37 : decode cX11_list 37 = .ok (.if_icmp .ge 18, 3) := by decide +kernel
theorem dX11_list_40 : decode cX11_list 40 = .ok (.aload_n 0, 1) := by decide +kernel
theorem dX11_list_41 : decode cX11_list 41 = .ok (.getfield 90, 3) := by decide +kernel
theorem dX11_list_44 : decode cX11_list 44 = .ok (.iload_n 1, 1) := by decide +kernel
theorem dX11_list_45 : decode cX11_list 45 = .ok (.aaload, 1) := by decide +kernel
theorem dX11_list_46 : decode cX11_list 46 = .ok (.iload_n 3, 1) := by decide +kernel
theorem dX11_list_47 : decode cX11_list 47 = .ok (.iconst 0, 1) := by decide +kernel
theorem dX11_list_48 : decode cX11_list 48 = .ok (.iastore, 1) := by decide +kernel
theorem dX11_list_49 : decode cX11_list 49 = .ok (.iinc 3 1, 3) := by decide +kernel
theorem dX11_list_52 : decode cX11_list 52 = .ok (.goto (-18), 3) := by decide +kernel
theorem dX11_list_55 : decode cX11_list 55 = .ok (.iconst 1, 1) := by decide +kernel
theorem dX11_list_56 : decode cX11_list 56 = .ok (.ireturn, 1) := by decide +kernel
theorem dX11_put_0 : decode cX11_put 0 = .ok (.iload_n 1, 1) := by decide +kernel
theorem dX11_put_1 : decode cX11_put 1 = .ok (.invokestatic 267, 3) := by decide +kernel
theorem dX11_put_4 : decode cX11_put 4 = .ok (.ifCond .ne 5, 3) := by decide +kernel
theorem dX11_put_7 : decode cX11_put 7 = .ok (.iconst (-1), 1) := by decide +kernel
theorem dX11_put_8 : decode cX11_put 8 = .ok (.ireturn, 1) := by decide +kernel
theorem dX11_put_9 : decode cX11_put 9 = .ok (.aload_n 0, 1) := by decide +kernel
theorem dX11_put_10 : decode cX11_put 10 = .ok (.getfield 87, 3) := by decide +kernel
theorem dX11_put_13 : decode cX11_put 13 = .ok (.iload_n 1, 1) := by decide +kernel
theorem dX11_put_14 : decode cX11_put 14 = .ok (.iaload, 1) := by decide +kernel
theorem dX11_put_15 : decode cX11_put 15 = .ok (.ifCond .ge 6, 3) := by decide +kernel
theorem dX11_put_18 : decode cX11_put 18 = .ok (.bipush (-11), 2) := by decide +kernel
theorem dX11_put_20 : decode cX11_put 20 = .ok (.ireturn, 1) := by decide +kernel
theorem dX11_put_21 : decode cX11_put 21 = .ok (.iload_n 2, 1) := by decide +kernel
theorem dX11_put_22 : decode cX11_put 22 = .ok (.i2l, 1) := by decide +kernel
theorem dX11_put_23 : decode cX11_put 23 = .ok (.lconst 0, 1) := by decide +kernel
theorem dX11_put_24 : decode cX11_put 24 = .ok (.aload_n 0, 1) := by decide +kernel
theorem dX11_put_25 : decode cX11_put 25 = .ok (.getfield 87, 3) := by decide +kernel
theorem dX11_put_28 : decode cX11_put 28 = .ok (.iload_n 1, 1) := by decide +kernel
theorem dX11_put_29 : decode cX11_put 29 = .ok (.iaload, 1) := by decide +kernel
theorem dX11_put_30 : decode cX11_put 30 = .ok (.iconst 1, 1) := by decide +kernel
theorem dX11_put_31 : decode cX11_put 31 = .ok (.isub, 1) := by decide +kernel
theorem dX11_put_32 : decode cX11_put 32 = .ok (.i2l, 1) := by decide +kernel
theorem dX11_put_33 : decode cX11_put 33 = .ok (.invokestatic 99, 3) := by decide +kernel
theorem dX11_put_36 : decode cX11_put 36 = .ok (.ifCond .ne 6, 3) := by decide +kernel
theorem dX11_put_39 : decode cX11_put 39 = .ok (.bipush (-13), 2) := by decide +kernel
theorem dX11_put_41 : decode cX11_put 41 = .ok (.ireturn, 1) := by decide +kernel
theorem dX11_put_42 : decode cX11_put 42 = .ok (.aload_n 0, 1) := by decide +kernel
theorem dX11_put_43 : decode cX11_put 43 = .ok (.getfield 90, 3) := by decide +kernel
theorem dX11_put_46 : decode cX11_put 46 = .ok (.iload_n 1, 1) := by decide +kernel
theorem dX11_put_47 : decode cX11_put 47 = .ok (.aaload, 1) := by decide +kernel
theorem dX11_put_48 : decode cX11_put 48 = .ok (.iload_n 2, 1) := by decide +kernel
theorem dX11_put_49 : decode cX11_put 49 = .ok (.iload_n 3, 1) := by decide +kernel
theorem dX11_put_50 : decode cX11_put 50 = .ok (.iastore, 1) := by decide +kernel
theorem dX11_put_51 : decode cX11_put 51 = .ok (.iconst 1, 1) := by decide +kernel
theorem dX11_put_52 : decode cX11_put 52 = .ok (.ireturn, 1) := by decide +kernel
theorem dX11_get_0 : decode cX11_get 0 = .ok (.iload_n 1, 1) := by decide +kernel
theorem dX11_get_1 : decode cX11_get 1 = .ok (.invokestatic 267, 3) := by decide +kernel
theorem dX11_get_4 : decode cX11_get 4 = .ok (.ifCond .eq 33, 3) := by decide +kernel
theorem dX11_get_7 : decode cX11_get 7 = .ok (.iload_n 2, 1) := by decide +kernel
theorem dX11_get_8 : decode cX11_get 8 = .ok (.i2l, 1) := by decide +kernel
theorem dX11_get_9 : decode cX11_get 9 = .ok (.lconst 0, 1) := by decide +kernel
theorem dX11_get_10 : decode cX11_get 10 = .ok (.aload_n 0, 1) := by decide +kernel
theorem dX11_get_11 : decode cX11_get 11 = .ok (.getfield 87, 3) := by decide +kernel
theorem dX11_get_14 : decode cX11_get 14 = .ok (.iload_n 1, 1) := by decide +kernel
theorem dX11_get_15 : decode cX11_get 15 = .ok (.iaload, 1) := by decide +kernel
theorem dX11_get_16 : decode cX11_get 16 = .ok (.iconst 1, 1) := by decide +kernel
theorem dX11_get_17 : decode cX11_get 17 = .ok (.isub, 1) := by decide +kernel
theorem dX11_get_18 : decode cX11_get 18 = .ok (.i2l, 1) := by decide +kernel
theorem dX11_get_19 : decode cX11_get 19 = .ok (.invokestatic 99, 3) := by decide +kernel
theorem dX11_get_22 : decode cX11_get 22 = .ok (.ifCond .eq 15, 3) := by decide +kernel
theorem dX11_get_25 : decode cX11_get 25 = .ok (.aload_n 0, 1) := by decide +kernel
theorem dX11_get_26 : decode cX11_get 26 = .ok (.getfield 90, 3) := by decide +kernel
theorem dX11_get_29 : decode cX11_get 29 = .ok (.iload_n 1, 1) := by decide +kernel
theorem dX11_get_30 : decode cX11_get 30 = .ok (.aaload, 1) := by decide +kernel
theorem dX11_get_31 : decode cX11_get 31 = .ok (.iload_n 2, 1) := by decide +kernel
theorem dX11_get_32 : decode cX11_get 32 = .ok (.iaload, 1) := by decide +kernel
theorem dX11_get_33 : decode cX11_get 33 = .ok (.i2l, 1) := by decide +kernel
theorem dX11_get_34 : decode cX11_get 34 = .ok (.goto 6, 3) := by decide +kernel
theorem dX11_get_37 : decode cX11_get 37 = .ok (.ldc2_w 149, 3) := by decide +kernel
theorem dX11_get_40 : decode cX11_get 40 = .ok (.lreturn, 1) := by decide +kernel
theorem dX11_image_0 : decode cX11_image 0 = .ok (.iconst 0, 1) := by decide +kernel
theorem dX11_image_1 : decode cX11_image 1 = .ok (.istore_n 1, 1) := by decide +kernel
theorem dX11_image_2 : decode cX11_image 2 = .ok (.iload_n 1, 1) := by decide +kernel
theorem dX11_image_3 : decode cX11_image 3 = .ok (.bipush 48, 2) := by decide +kernel
theorem dX11_image_5 : decode cX11_image 5 = .ok (.if_icmp .ge 21, 3) := by decide +kernel
theorem dX11_image_8 : decode cX11_image 8 = .ok (.aload_n 0, 1) := by decide +kernel
theorem dX11_image_9 : decode cX11_image 9 = .ok (.getfield 15, 3) := by decide +kernel
theorem dX11_image_12 : decode cX11_image 12 = .ok (.iload_n 1, 1) := by decide +kernel
theorem dX11_image_13 : decode cX11_image 13 = .ok (.aload_n 0, 1) := by decide +kernel
theorem dX11_image_14 : decode cX11_image 14 = .ok (.getfield 11, 3) := by decide +kernel
theorem dX11_image_17 : decode cX11_image 17 = .ok (.iload_n 1, 1) := by decide +kernel
theorem dX11_image_18 : decode cX11_image 18 = .ok (.iaload, 1) := by decide +kernel
theorem dX11_image_19 : decode cX11_image 19 = .ok (.iastore, 1) := by decide +kernel
theorem dX11_image_20 : decode cX11_image 20 = .ok (.iinc 1 1, 3) := by decide +kernel
theorem dX11_image_23 : decode cX11_image 23 = .ok (.goto (-21), 3) := by decide +kernel
theorem dX11_image_26 : decode cX11_image 26 = .ok (.aload_n 0, 1) := by decide +kernel
theorem dX11_image_27 : decode cX11_image 27 = .ok (.iconst 1, 1) := by decide +kernel
theorem dX11_image_28 : decode cX11_image 28 = .ok (.putfield 270, 3) := by decide +kernel
theorem dX11_image_31 : decode cX11_image 31 = .ok (.aload_n 0, 1) := by decide +kernel
theorem dX11_image_32 : decode cX11_image 32 = .ok (.getfield 11, 3) := by decide +kernel
theorem dX11_image_35 : decode cX11_image 35 = .ok (.bipush 18, 2) := by decide +kernel
theorem dX11_image_37 : decode cX11_image 37 = .ok (.iaload, 1) := by decide +kernel
theorem dX11_image_38 : decode cX11_image 38 = .ok (.ireturn, 1) := by decide +kernel
theorem dX11_undo_0 : decode cX11_undo 0 = .ok (.aload_n 0, 1) := by decide +kernel
theorem dX11_undo_1 : decode cX11_undo 1 = .ok (.getfield 270, 3) := by decide +kernel
theorem dX11_undo_4 : decode cX11_undo 4 = .ok (.ifCond .ne 6, 3) := by decide +kernel
theorem dX11_undo_7 : decode cX11_undo 7 = .ok (.bipush (-3), 2) := by decide +kernel
theorem dX11_undo_9 : decode cX11_undo 9 = .ok (.ireturn, 1) := by decide +kernel
theorem dX11_undo_10 : decode cX11_undo 10 = .ok (.iconst 0, 1) := by decide +kernel
theorem dX11_undo_11 : decode cX11_undo 11 = .ok (.istore_n 1, 1) := by decide +kernel
theorem dX11_undo_12 : decode cX11_undo 12 = .ok (.iload_n 1, 1) := by decide +kernel
theorem dX11_undo_13 : decode cX11_undo 13 = .ok (.bipush 48, 2) := by decide +kernel
theorem dX11_undo_15 : decode cX11_undo 15 = .ok (.if_icmp .ge 21, 3) := by decide +kernel
theorem dX11_undo_18 : decode cX11_undo 18 = .ok (.aload_n 0, 1) := by decide +kernel
theorem dX11_undo_19 : decode cX11_undo 19 = .ok (.getfield 11, 3) := by decide +kernel
theorem dX11_undo_22 : decode cX11_undo 22 = .ok (.iload_n 1, 1) := by decide +kernel
theorem dX11_undo_23 : decode cX11_undo 23 = .ok (.aload_n 0, 1) := by decide +kernel
theorem dX11_undo_24 : decode cX11_undo 24 = .ok (.getfield 15, 3) := by decide +kernel
theorem dX11_undo_27 : decode cX11_undo 27 = .ok (.iload_n 1, 1) := by decide +kernel
theorem dX11_undo_28 : decode cX11_undo 28 = .ok (.iaload, 1) := by decide +kernel
theorem dX11_undo_29 : decode cX11_undo 29 = .ok (.iastore, 1) := by decide +kernel
theorem dX11_undo_30 : decode cX11_undo 30 = .ok (.iinc 1 1, 3) := by decide +kernel
theorem dX11_undo_33 : decode cX11_undo 33 = .ok (.goto (-21), 3) := by decide +kernel
theorem dX11_undo_36 : decode cX11_undo 36 = .ok (.aload_n 0, 1) := by decide +kernel
theorem dX11_undo_37 : decode cX11_undo 37 = .ok (.getfield 11, 3) := by decide +kernel
theorem dX11_undo_40 : decode cX11_undo 40 = .ok (.bipush 18, 2) := by decide +kernel
theorem dX11_undo_42 : decode cX11_undo 42 = .ok (.iaload, 1) := by decide +kernel
theorem dX11_undo_43 : decode cX11_undo 43 = .ok (.ireturn, 1) := by decide +kernel
theorem dX11_count_0 : decode cX11_count 0 = .ok (.iload_n 1, 1) := by decide +kernel
theorem dX11_count_1 : decode cX11_count 1 = .ok (.tableswitch 96 0 4 #[35, 43, 78, 83, 88], 35) := by decide +kernel
theorem dX11_count_36 : decode cX11_count 36 = .ok (.aload_n 0, 1) := by decide +kernel
theorem dX11_count_37 : decode cX11_count 37 = .ok (.getfield 11, 3) := by decide +kernel
theorem dX11_count_40 : decode cX11_count 40 = .ok (.bipush 18, 2) := by decide +kernel
theorem dX11_count_42 : decode cX11_count 42 = .ok (.iaload, 1) := by decide +kernel
theorem dX11_count_43 : decode cX11_count 43 = .ok (.ireturn, 1) := by decide +kernel
theorem dX11_count_44 : decode cX11_count 44 = .ok (.iconst 0, 1) := by decide +kernel
theorem dX11_count_45 : decode cX11_count 45 = .ok (.istore_n 2, 1) := by decide +kernel
theorem dX11_count_46 : decode cX11_count 46 = .ok (.iconst 0, 1) := by decide +kernel
theorem dX11_count_47 : decode cX11_count 47 = .ok (.istore_n 3, 1) := by decide +kernel
theorem dX11_count_48 : decode cX11_count 48 = .ok (.iload_n 3, 1) := by decide +kernel
theorem dX11_count_49 : decode cX11_count 49 = .ok (.bipush 18, 2) := by decide +kernel
theorem dX11_count_51 : decode cX11_count 51 = .ok (.if_icmp .ge 26, 3) := by decide +kernel
theorem dX11_count_54 : decode cX11_count 54 = .ok (.iload_n 2, 1) := by decide +kernel
theorem dX11_count_55 : decode cX11_count 55 = .ok (.aload_n 0, 1) := by decide +kernel
theorem dX11_count_56 : decode cX11_count 56 = .ok (.getfield 11, 3) := by decide +kernel
theorem dX11_count_59 : decode cX11_count 59 = .ok (.iload_n 3, 1) := by decide +kernel
theorem dX11_count_60 : decode cX11_count 60 = .ok (.iaload, 1) := by decide +kernel
theorem dX11_count_61 : decode cX11_count 61 = .ok (.ifCond .eq 7, 3) := by decide +kernel
theorem dX11_count_64 : decode cX11_count 64 = .ok (.iconst 1, 1) := by decide +kernel
theorem dX11_count_65 : decode cX11_count 65 = .ok (.goto 4, 3) := by decide +kernel
theorem dX11_count_68 : decode cX11_count 68 = .ok (.iconst 0, 1) := by decide +kernel
theorem dX11_count_69 : decode cX11_count 69 = .ok (.iadd, 1) := by decide +kernel
theorem dX11_count_70 : decode cX11_count 70 = .ok (.istore_n 2, 1) := by decide +kernel
theorem dX11_count_71 : decode cX11_count 71 = .ok (.iinc 3 1, 3) := by decide +kernel
theorem dX11_count_74 : decode cX11_count 74 = .ok (.goto (-26), 3) := by decide +kernel
theorem dX11_count_77 : decode cX11_count 77 = .ok (.iload_n 2, 1) := by decide +kernel
theorem dX11_count_78 : decode cX11_count 78 = .ok (.ireturn, 1) := by decide +kernel
theorem dX11_count_79 : decode cX11_count 79 = .ok (.aload_n 0, 1) := by decide +kernel
theorem dX11_count_80 : decode cX11_count 80 = .ok (.getfield 237, 3) := by decide +kernel
theorem dX11_count_83 : decode cX11_count 83 = .ok (.ireturn, 1) := by decide +kernel
theorem dX11_count_84 : decode cX11_count 84 = .ok (.aload_n 0, 1) := by decide +kernel
theorem dX11_count_85 : decode cX11_count 85 = .ok (.getfield 260, 3) := by decide +kernel
theorem dX11_count_88 : decode cX11_count 88 = .ok (.ireturn, 1) := by decide +kernel
theorem dX11_count_89 : decode cX11_count 89 = .ok (.aload_n 0, 1) := by decide +kernel
theorem dX11_count_90 : decode cX11_count 90 = .ok (.getfield 11, 3) := by decide +kernel
theorem dX11_count_93 : decode cX11_count 93 = .ok (.bipush 31, 2) := by decide +kernel
theorem dX11_count_95 : decode cX11_count 95 = .ok (.iaload, 1) := by decide +kernel
theorem dX11_count_96 : decode cX11_count 96 = .ok (.ireturn, 1) := by decide +kernel
theorem dX11_count_97 : decode cX11_count 97 = .ok (.bipush (-2), 2) := by decide +kernel
theorem dX11_count_99 : decode cX11_count 99 = .ok (.ireturn, 1) := by decide +kernel
