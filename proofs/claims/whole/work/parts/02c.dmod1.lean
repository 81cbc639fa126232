theorem dX11_init_0 : decode cX11_init 0 = .ok (.aload_n 0, 1) := by decide +kernel
theorem dX11_init_1 : decode cX11_init 1 = .ok (.invokespecial 3, 3) := by decide +kernel
theorem dX11_init_4 : decode cX11_init 4 = .ok (.aload_n 0, 1) := by decide +kernel
theorem dX11_init_5 : decode cX11_init 5 = .ok (.bipush 48, 2) := by decide +kernel
theorem dX11_init_7 : decode cX11_init 7 = .ok (.newarray .int, 2) := by decide +kernel
theorem dX11_init_9 : decode cX11_init 9 = .ok (.putfield 11, 3) := by decide +kernel
theorem dX11_init_12 : decode cX11_init 12 = .ok (.aload_n 0, 1) := by decide +kernel
theorem dX11_init_13 : decode cX11_init 13 = .ok (.bipush 48, 2) := by decide +kernel
theorem dX11_init_15 : decode cX11_init 15 = .ok (.newarray .int, 2) := by decide +kernel
theorem dX11_init_17 : decode cX11_init 17 = .ok (.putfield 15, 3) := by decide +kernel
theorem dX11_init_20 : decode cX11_init 20 = .ok (.aload_n 0, 1) := by decide +kernel
theorem dX11_init_21 : decode cX11_init 21 = .ok (.sipush 1024, 3) := by decide +kernel
theorem dX11_init_24 : decode cX11_init 24 = .ok (.newarray .int, 2) := by decide +kernel
theorem dX11_init_26 : decode cX11_init 26 = .ok (.putfield 18, 3) := by decide +kernel
theorem dX11_init_29 : decode cX11_init 29 = .ok (.aload_n 0, 1) := by decide +kernel
theorem dX11_init_30 : decode cX11_init 30 = .ok (.bipush 32, 2) := by decide +kernel
theorem dX11_init_32 : decode cX11_init 32 = .ok (.newarray .int, 2) := by decide +kernel
theorem dX11_init_34 : decode cX11_init 34 = .ok (.putfield 21, 3) := by decide +kernel
theorem dX11_init_37 : decode cX11_init 37 = .ok (.aload_n 0, 1) := by decide +kernel
theorem dX11_init_38 : decode cX11_init 38 = .ok (.sipush 1024, 3) := by decide +kernel
theorem dX11_init_41 : decode cX11_init 41 = .ok (.newarray .int, 2) := by decide +kernel
theorem dX11_init_43 : decode cX11_init 43 = .ok (.putfield 24, 3) := by decide +kernel
theorem dX11_init_46 : decode cX11_init 46 = .ok (.aload_n 0, 1) := by decide +kernel
theorem dX11_init_47 : decode cX11_init 47 = .ok (.sipush 1024, 3) := by decide +kernel
theorem dX11_init_50 : decode cX11_init 50 = .ok (.newarray .boolean, 2) := by decide +kernel
theorem dX11_init_52 : decode cX11_init 52 = .ok (.putfield 27, 3) := by decide +kernel
theorem dX11_init_55 : decode cX11_init 55 = .ok (.aload_n 0, 1) := by decide +kernel
theorem dX11_init_56 : decode cX11_init 56 = .ok (.sipush 1025, 3) := by decide +kernel
theorem dX11_init_59 : decode cX11_init 59 = .ok (.newarray .int, 2) := by decide +kernel
theorem dX11_init_61 : decode cX11_init 61 = .ok (.putfield 31, 3) := by decide +kernel
theorem dX11_init_64 : decode cX11_init 64 = .ok (.aload_n 0, 1) := by decide +kernel
theorem dX11_init_65 : decode cX11_init 65 = .ok (.sipush 2500, 3) := by decide +kernel
theorem dX11_init_68 : decode cX11_init 68 = .ok (.newarray .int, 2) := by decide +kernel
theorem dX11_init_70 : decode cX11_init 70 = .ok (.putfield 34, 3) := by decide +kernel
theorem dX11_init_73 : decode cX11_init 73 = .ok (.aload_n 0, 1) := by decide +kernel
theorem dX11_init_74 : decode cX11_init 74 = .ok (.sipush 2500, 3) := by decide +kernel
theorem dX11_init_77 : decode cX11_init 77 = .ok (.newarray .int, 2) := by decide +kernel
theorem dX11_init_79 : decode cX11_init 79 = .ok (.putfield 37, 3) := by decide +kernel
theorem dX11_init_82 : decode cX11_init 82 = .ok (.aload_n 0, 1) := by decide +kernel
theorem dX11_init_83 : decode cX11_init 83 = .ok (.sipush 2500, 3) := by decide +kernel
theorem dX11_init_86 : decode cX11_init 86 = .ok (.newarray .int, 2) := by decide +kernel
theorem dX11_init_88 : decode cX11_init 88 = .ok (.putfield 40, 3) := by decide +kernel
theorem dX11_init_91 : decode cX11_init 91 = .ok (.aload_n 0, 1) := by decide +kernel
theorem dX11_init_92 : decode cX11_init 92 = .ok (.sipush 2500, 3) := by decide +kernel
theorem dX11_init_95 : decode cX11_init 95 = .ok (.newarray .int, 2) := by decide +kernel
theorem dX11_init_97 : decode cX11_init 97 = .ok (.putfield 43, 3) := by decide +kernel
theorem dX11_init_100 : decode cX11_init 100 = .ok (.aload_n 0, 1) := by decide +kernel
theorem dX11_init_101 : decode cX11_init 101 = .ok (.bipush 6, 2) := by decide +kernel
theorem dX11_init_103 : decode cX11_init 103 = .ok (.sipush 2500, 3) := by decide +kernel
theorem dX11_init_106 : decode cX11_init 106 = .ok (.multianewarray 46 2, 4) := by decide +kernel
theorem dX11_init_110 : decode cX11_init 110 = .ok (.putfield 48, 3) := by decide +kernel
theorem dX11_init_113 : decode cX11_init 113 = .ok (.aload_n 0, 1) := by decide +kernel
theorem dX11_init_114 : decode cX11_init 114 = .ok (.sipush 2500, 3) := by decide +kernel
theorem dX11_init_117 : decode cX11_init 117 = .ok (.newarray .int, 2) := by decide +kernel
theorem dX11_init_119 : decode cX11_init 119 = .ok (.putfield 51, 3) := by decide +kernel
theorem dX11_init_122 : decode cX11_init 122 = .ok (.aload_n 0, 1) := by decide +kernel
theorem dX11_init_123 : decode cX11_init 123 = .ok (.sipush 2500, 3) := by decide +kernel
theorem dX11_init_126 : decode cX11_init 126 = .ok (.newarray .int, 2) := by decide +kernel
theorem dX11_init_128 : decode cX11_init 128 = .ok (.putfield 54, 3) := by decide +kernel
theorem dX11_init_131 : decode cX11_init 131 = .ok (.aload_n 0, 1) := by decide +kernel
theorem dX11_init_132 : decode cX11_init 132 = .ok (.sipush 2500, 3) := by decide +kernel
theorem dX11_init_135 : decode cX11_init 135 = .ok (.newarray .int, 2) := by decide +kernel
theorem dX11_init_137 : decode cX11_init 137 = .ok (.putfield 57, 3) := by decide +kernel
theorem dX11_init_140 : decode cX11_init 140 = .ok (.aload_n 0, 1) := by decide +kernel
theorem dX11_init_141 : decode cX11_init 141 = .ok (.sipush 2500, 3) := by decide +kernel
theorem dX11_init_144 : decode cX11_init 144 = .ok (.newarray .int, 2) := by decide +kernel
theorem dX11_init_146 : decode cX11_init 146 = .ok (.putfield 60, 3) := by decide +kernel
theorem dX11_init_149 : decode cX11_init 149 = .ok (.aload_n 0, 1) := by decide +kernel
theorem dX11_init_150 : decode cX11_init 150 = .ok (.sipush 2500, 3) := by decide +kernel
theorem dX11_init_153 : decode cX11_init 153 = .ok (.newarray .int, 2) := by decide +kernel
theorem dX11_init_155 : decode cX11_init 155 = .ok (.putfield 63, 3) := by decide +kernel
theorem dX11_init_158 : decode cX11_init 158 = .ok (.aload_n 0, 1) := by decide +kernel
theorem dX11_init_159 : decode cX11_init 159 = .ok (.sipush 2500, 3) := by decide +kernel
theorem dX11_init_162 : decode cX11_init 162 = .ok (.newarray .int, 2) := by decide +kernel
theorem dX11_init_164 : decode cX11_init 164 = .ok (.putfield 66, 3) := by decide +kernel
theorem dX11_init_167 : decode cX11_init 167 = .ok (.aload_n 0, 1) := by decide +kernel
theorem dX11_init_168 : decode cX11_init 168 = .ok (.sipush 2500, 3) := by decide +kernel
theorem dX11_init_171 : decode cX11_init 171 = .ok (.newarray .int, 2) := by decide +kernel
theorem dX11_init_173 : decode cX11_init 173 = .ok (.putfield 69, 3) := by decide +kernel
theorem dX11_init_176 : decode cX11_init 176 = .ok (.aload_n 0, 1) := by decide +kernel
theorem dX11_init_177 : decode cX11_init 177 = .ok (.sipush 2500, 3) := by decide +kernel
theorem dX11_init_180 : decode cX11_init 180 = .ok (.newarray .int, 2) := by decide +kernel
theorem dX11_init_182 : decode cX11_init 182 = .ok (.putfield 72, 3) := by decide +kernel
theorem dX11_init_185 : decode cX11_init 185 = .ok (.aload_n 0, 1) := by decide +kernel
theorem dX11_init_186 : decode cX11_init 186 = .ok (.sipush 1024, 3) := by decide +kernel
theorem dX11_init_189 : decode cX11_init 189 = .ok (.newarray .boolean, 2) := by decide +kernel
theorem dX11_init_191 : decode cX11_init 191 = .ok (.putfield 75, 3) := by decide +kernel
theorem dX11_init_194 : decode cX11_init 194 = .ok (.aload_n 0, 1) := by decide +kernel
theorem dX11_init_195 : decode cX11_init 195 = .ok (.bipush 60, 2) := by decide +kernel
theorem dX11_init_197 : decode cX11_init 197 = .ok (.newarray .int, 2) := by decide +kernel
theorem dX11_init_199 : decode cX11_init 199 = .ok (.putfield 78, 3) := by decide +kernel
theorem dX11_init_202 : decode cX11_init 202 = .ok (.aload_n 0, 1) := by decide +kernel
theorem dX11_init_203 : decode cX11_init 203 = .ok (.bipush 9, 2) := by decide +kernel
theorem dX11_init_205 : decode cX11_init 205 = .ok (.newarray .int, 2) := by decide +kernel
theorem dX11_init_207 : decode cX11_init 207 = .ok (.putfield 81, 3) := by decide +kernel
theorem dX11_init_210 : decode cX11_init 210 = .ok (.aload_n 0, 1) := by decide +kernel
theorem dX11_init_211 : decode cX11_init 211 = .ok (.bipush 120, 2) := by decide +kernel
theorem dX11_init_213 : decode cX11_init 213 = .ok (.newarray .int, 2) := by decide +kernel
theorem dX11_init_215 : decode cX11_init 215 = .ok (.putfield 84, 3) := by decide +kernel
theorem dX11_init_218 : decode cX11_init 218 = .ok (.aload_n 0, 1) := by decide +kernel
theorem dX11_init_219 : decode cX11_init 219 = .ok (.iconst 4, 1) := by decide +kernel
theorem dX11_init_220 : decode cX11_init 220 = .ok (.newarray .int, 2) := by decide +kernel
theorem dX11_init_222 : decode cX11_init 222 = .ok (.dup, 1) := by decide +kernel
theorem dX11_init_223 : decode cX11_init 223 = .ok (.iconst 0, 1) := by decide +kernel
theorem dX11_init_224 : decode cX11_init 224 = .ok (.iconst (-1), 1) := by decide +kernel
theorem dX11_init_225 : decode cX11_init 225 = .ok (.iastore, 1) := by decide +kernel
theorem dX11_init_226 : decode cX11_init 226 = .ok (.dup, 1) := by decide +kernel
theorem dX11_init_227 : decode cX11_init 227 = .ok (.iconst 1, 1) := by decide +kernel
theorem dX11_init_228 : decode cX11_init 228 = .ok (.iconst (-1), 1) := by decide +kernel
theorem dX11_init_229 : decode cX11_init 229 = .ok (.iastore, 1) := by decide +kernel
theorem dX11_init_230 : decode cX11_init 230 = .ok (.dup, 1) := by decide +kernel
theorem dX11_init_231 : decode cX11_init 231 = .ok (.iconst 2, 1) := by decide +kernel
theorem dX11_init_232 : decode cX11_init 232 = .ok (.iconst (-1), 1) := by decide +kernel
theorem dX11_init_233 : decode cX11_init 233 = .ok (.iastore, 1) := by decide +kernel
theorem dX11_init_234 : decode cX11_init 234 = .ok (.dup, 1) := by decide +kernel
theorem dX11_init_235 : decode cX11_init 235 = .ok (.iconst 3, 1) := by decide +kernel
theorem dX11_init_236 : decode cX11_init 236 = .ok (.iconst (-1), 1) := by decide +kernel
theorem dX11_init_237 : decode cX11_init 237 = .ok (.iastore, 1) := by decide +kernel
theorem dX11_init_238 : decode cX11_init 238 = .ok (.putfield 87, 3) := by decide +kernel
theorem dX11_init_241 : decode cX11_init 241 = .ok (.aload_n 0, 1) := by decide +kernel
theorem dX11_init_242 : decode cX11_init 242 = .ok (.iconst 4, 1) := by decide +kernel
theorem dX11_init_243 : decode cX11_init 243 = .ok (.bipush 12, 2) := by decide +kernel
theorem dX11_init_245 : decode cX11_init 245 = .ok (.multianewarray 46 2, 4) := by decide +kernel
theorem dX11_init_249 : decode cX11_init 249 = .ok (.putfield 90, 3) := by decide +kernel
theorem dX11_init_252 : decode cX11_init 252 = .ok (.return_, 1) := by decide +kernel
theorem dX11_in_0 : decode cX11_in 0 = .ok (.lload_n 0, 1) := by decide +kernel
theorem dX11_in_1 : decode cX11_in 1 = .ok (.lload_n 2, 1) := by decide +kernel
theorem dX11_in_2 : decode cX11_in 2 = .ok (.lcmp, 1) := by decide +kernel
theorem dX11_in_3 : decode cX11_in 3 = .ok (.ifCond .lt 14, 3) := by decide +kernel
theorem dX11_in_6 : decode cX11_in 6 = .ok (.lload_n 0, 1) := by decide +kernel
theorem dX11_in_7 : decode cX11_in 7 = .ok (.lload 4, 2) := by decide +kernel
theorem dX11_in_9 : decode cX11_in 9 = .ok (.lcmp, 1) := by decide +kernel
theorem dX11_in_10 : decode cX11_in 10 = .ok (.ifCond .gt 7, 3) := by decide +kernel
theorem dX11_in_13 : decode cX11_in 13 = .ok (.iconst 1, 1) := by decide +kernel
theorem dX11_in_14 : decode cX11_in 14 = .ok (.goto 4, 3) := by decide +kernel
theorem dX11_in_17 : decode cX11_in 17 = .ok (.iconst 0, 1) := by decide +kernel
theorem dX11_in_18 : decode cX11_in 18 = .ok (.ireturn, 1) := by decide +kernel
theorem dX11_mod_0 : decode cX11_mod 0 = .ok (.iload_n 0, 1) := by decide +kernel
theorem dX11_mod_1 : decode cX11_mod 1 = .ok (.bipush 31, 2) := by decide +kernel
theorem dX11_mod_3 : decode cX11_mod 3 = .ok (.irem, 1) := by decide +kernel
theorem dX11_mod_4 : decode cX11_mod 4 = .ok (.istore_n 1, 1) := by decide +kernel
theorem dX11_mod_5 : decode cX11_mod 5 = .ok (.iload_n 1, 1) := by decide +kernel
theorem dX11_mod_6 : decode cX11_mod 6 = .ok (.ifCond .ge 10, 3) := by decide +kernel
theorem dX11_mod_9 : decode cX11_mod 9 = .ok (.iload_n 1, 1) := by decide +kernel
theorem dX11_mod_10 : decode cX11_mod 10 = .ok (.bipush 31, 2) := by decide +kernel
theorem dX11_mod_12 : decode cX11_mod 12 = .ok (.iadd, 1) := by decide +kernel
theorem dX11_mod_13 : decode cX11_mod 13 = .ok (.goto 4, 3) := by decide +kernel
theorem dX11_mod_16 : decode cX11_mod 16 = .ok (.iload_n 1, 1) := by decide +kernel
theorem dX11_mod_17 : decode cX11_mod 17 = .ok (.ireturn, 1) := by decide +kernel
theorem dX11_inverse_0 : decode cX11_inverse 0 = .ok (.iconst 1, 1) := by decide +kernel
theorem dX11_inverse_1 : decode cX11_inverse 1 = .ok (.istore_n 1, 1) := by decide +kernel
theorem dX11_inverse_2 : decode cX11_inverse 2 = .ok (.iconst 0, 1) := by decide +kernel
theorem dX11_inverse_3 : decode cX11_inverse 3 = .ok (.istore_n 2, 1) := by decide +kernel
theorem dX11_inverse_4 : decode cX11_inverse 4 = .ok (.iload_n 2, 1) := by decide +kernel
theorem dX11_inverse_5 : decode cX11_inverse 5 = .ok (.bipush 29, 2) := by decide +kernel
theorem dX11_inverse_7 : decode cX11_inverse 7 = .ok (.if_icmp .ge 16, 3) := by decide +kernel
theorem dX11_inverse_10 : decode cX11_inverse 10 = .ok (.iload_n 1, 1) := by decide +kernel
theorem dX11_inverse_11 : decode cX11_inverse 11 = .ok (.iload_n 0, 1) := by decide +kernel
theorem dX11_inverse_12 : decode cX11_inverse 12 = .ok (.imul, 1) := by decide +kernel
theorem dX11_inverse_13 : decode cX11_inverse 13 = .ok (.bipush 31, 2) := by decide +kernel
theorem dX11_inverse_15 : decode cX11_inverse 15 = .ok (.irem, 1) := by decide +kernel
theorem dX11_inverse_16 : decode cX11_inverse 16 = .ok (.istore_n 1, 1) := by decide +kernel
theorem dX11_inverse_17 : decode cX11_inverse 17 = .ok (.iinc 2 1, 3) := by decide +kernel
theorem dX11_inverse_20 : decode cX11_inverse 20 = .ok (.goto (-16), 3) := by decide +kernel
theorem dX11_inverse_23 : decode cX11_inverse 23 = .ok (.iload_n 1, 1) := by decide +kernel
theorem dX11_inverse_24 : decode cX11_inverse 24 = .ok (.ireturn, 1) := by decide +kernel
theorem dX11_by_0 : decode cX11_by 0 = .ok (.iload_n 1, 1) := by decide +kernel
theorem dX11_by_1 : decode cX11_by 1 = .ok (.ifCond .eq 15, 3) := by decide +kernel
theorem dX11_by_4 : decode cX11_by 4 = .ok (.iload_n 0, 1) := by decide +kernel
theorem dX11_by_5 : decode cX11_by 5 = .ok (.iload_n 1, 1) := by decide +kernel
theorem dX11_by_6 : decode cX11_by 6 = .ok (.invokestatic 93, 3) := by decide +kernel
theorem dX11_by_9 : decode cX11_by 9 = .ok (.imul, 1) := by decide +kernel
theorem dX11_by_10 : decode cX11_by 10 = .ok (.bipush 31, 2) := by decide +kernel
theorem dX11_by_12 : decode cX11_by 12 = .ok (.irem, 1) := by decide +kernel
theorem dX11_by_13 : decode cX11_by 13 = .ok (.goto 14, 3) := by decide +kernel
theorem dX11_by_16 : decode cX11_by 16 = .ok (.iload_n 0, 1) := by decide +kernel
theorem dX11_by_17 : decode cX11_by 17 = .ok (.ifCond .eq 8, 3) := by decide +kernel
theorem dX11_by_20 : decode cX11_by 20 = .ok (.bipush 31, 2) := by decide +kernel
theorem dX11_by_22 : decode cX11_by 22 = .ok (.goto 5, 3) := by decide +kernel
theorem dX11_by_25 : decode cX11_by 25 = .ok (.bipush (-6), 2) := by decide +kernel
theorem dX11_by_27 : decode cX11_by 27 = .ok (.ireturn, 1) := by decide +kernel
theorem dX11_isCoordinate_0 : decode cX11_isCoordinate 0 = .ok (.iload_n 0, 1) := by decide +kernel
theorem dX11_isCoordinate_1 : decode cX11_isCoordinate 1 = .ok (.i2l, 1) := by decide +kernel
theorem dX11_isCoordinate_2 : decode cX11_isCoordinate 2 = .ok (.lconst 0, 1) := by decide +kernel
theorem dX11_isCoordinate_3 : decode cX11_isCoordinate 3 = .ok (.ldc2_w 97, 3) := by decide +kernel
theorem dX11_isCoordinate_6 : decode cX11_isCoordinate 6 = .ok (.invokestatic 99, 3) := by decide +kernel
theorem dX11_isCoordinate_9 : decode cX11_isCoordinate 9 = .ok (.ireturn, 1) := by decide +kernel
theorem dX11_isSpot_0 : decode cX11_isSpot 0 = .ok (.iload_n 0, 1) := by decide +kernel
theorem dX11_isSpot_1 : decode cX11_isSpot 1 = .ok (.invokestatic 103, 3) := by decide +kernel
theorem dX11_isSpot_4 : decode cX11_isSpot 4 = .ok (.ifCond .eq 14, 3) := by decide +kernel
theorem dX11_isSpot_7 : decode cX11_isSpot 7 = .ok (.iload_n 1, 1) := by decide +kernel
theorem dX11_isSpot_8 : decode cX11_isSpot 8 = .ok (.invokestatic 103, 3) := by decide +kernel
theorem dX11_isSpot_11 : decode cX11_isSpot 11 = .ok (.ifCond .eq 7, 3) := by decide +kernel
theorem dX11_isSpot_14 : decode cX11_isSpot 14 = .ok (.iconst 1, 1) := by decide +kernel
theorem dX11_isSpot_15 : decode cX11_isSpot 15 = .ok (.goto 4, 3) := by decide +kernel
theorem dX11_isSpot_18 : decode cX11_isSpot 18 = .ok (.iconst 0, 1) := by decide +kernel
theorem dX11_isSpot_19 : decode cX11_isSpot 19 = .ok (.ireturn, 1) := by decide +kernel
theorem dX11_placeOf_0 : decode cX11_placeOf 0 = .ok (.bipush 9, 2) := by decide +kernel
theorem dX11_placeOf_2 : decode cX11_placeOf 2 = .ok (.iload_n 0, 1) := by decide +kernel
theorem dX11_placeOf_3 : decode cX11_placeOf 3 = .ok (.imul, 1) := by decide +kernel
theorem dX11_placeOf_4 : decode cX11_placeOf 4 = .ok (.iconst 3, 1) := by decide +kernel
theorem dX11_placeOf_5 : decode cX11_placeOf 5 = .ok (.iload_n 1, 1) := by decide +kernel
theorem dX11_placeOf_6 : decode cX11_placeOf 6 = .ok (.imul, 1) := by decide +kernel
theorem dX11_placeOf_7 : decode cX11_placeOf 7 = .ok (.iadd, 1) := by decide +kernel
theorem dX11_placeOf_8 : decode cX11_placeOf 8 = .ok (.iload_n 2, 1) := by decide +kernel
theorem dX11_placeOf_9 : decode cX11_placeOf 9 = .ok (.iadd, 1) := by decide +kernel
theorem dX11_placeOf_10 : decode cX11_placeOf 10 = .ok (.ireturn, 1) := by decide +kernel
theorem dX11_isPlace_0 : decode cX11_isPlace 0 = .ok (.iload_n 0, 1) := by decide +kernel
theorem dX11_isPlace_1 : decode cX11_isPlace 1 = .ok (.i2l, 1) := by decide +kernel
theorem dX11_isPlace_2 : decode cX11_isPlace 2 = .ok (.lconst 0, 1) := by decide +kernel
theorem dX11_isPlace_3 : decode cX11_isPlace 3 = .ok (.lconst 1, 1) := by decide +kernel
theorem dX11_isPlace_4 : decode cX11_isPlace 4 = .ok (.invokestatic 99, 3) := by decide +kernel
theorem dX11_isPlace_7 : decode cX11_isPlace 7 = .ok (.ifCond .eq 31, 3) := by decide +kernel
theorem dX11_isPlace_10 : decode cX11_isPlace 10 = .ok (.iload_n 1, 1) := by decide +kernel
theorem dX11_isPlace_11 : decode cX11_isPlace 11 = .ok (.i2l, 1) := by decide +kernel
theorem dX11_isPlace_12 : decode cX11_isPlace 12 = .ok (.lconst 0, 1) := by decide +kernel
theorem dX11_isPlace_13 : decode cX11_isPlace 13 = .ok (.ldc2_w 107, 3) := by decide +kernel
theorem dX11_isPlace_16 : decode cX11_isPlace 16 = .ok (.invokestatic 99, 3) := by decide +kernel
theorem dX11_isPlace_19 : decode cX11_isPlace 19 = .ok (.ifCond .eq 19, 3) := by decide +kernel
theorem dX11_isPlace_22 : decode cX11_isPlace 22 = .ok (.iload_n 2, 1) := by decide +kernel
theorem dX11_isPlace_23 : decode cX11_isPlace 23 = .ok (.i2l, 1) := by decide +kernel
theorem dX11_isPlace_24 : decode cX11_isPlace 24 = .ok (.lconst 0, 1) := by decide +kernel
theorem dX11_isPlace_25 : decode cX11_isPlace 25 = .ok (.ldc2_w 107, 3) := by decide +kernel
theorem dX11_isPlace_28 : decode cX11_isPlace 28 = .ok (.invokestatic 99, 3) := by decide +kernel
theorem dX11_isPlace_31 : decode cX11_isPlace 31 = .ok (.ifCond .eq 7, 3) := by decide +kernel
theorem dX11_isPlace_34 : decode cX11_isPlace 34 = .ok (.iconst 1, 1) := by decide +kernel
theorem dX11_isPlace_35 : decode cX11_isPlace 35 = .ok (.goto 4, 3) := by decide +kernel
theorem dX11_isPlace_38 : decode cX11_isPlace 38 = .ok (.iconst 0, 1) := by decide +kernel
theorem dX11_isPlace_39 : decode cX11_isPlace 39 = .ok (.ireturn, 1) := by decide +kernel
theorem dX11_set_0 : decode cX11_set 0 = .ok (.iload_n 1, 1) := by decide +kernel
theorem dX11_set_1 : decode cX11_set 1 = .ok (.iload_n 2, 1) := by decide +kernel
theorem dX11_set_2 : decode cX11_set 2 = .ok (.iload_n 3, 1) := by decide +kernel
theorem dX11_set_3 : decode cX11_set 3 = .ok (.invokestatic 109, 3) := by decide +kernel
theorem dX11_set_6 : decode cX11_set 6 = .ok (.ifCond .ne 5, 3) := by decide +kernel
theorem dX11_set_9 : decode cX11_set 9 = .ok (.iconst (-1), 1) := by decide +kernel
theorem dX11_set_10 : decode cX11_set 10 = .ok (.ireturn, 1) := by decide +kernel
theorem dX11_set_11 : decode cX11_set 11 = .ok (.iload 4, 2) := by decide +kernel
theorem dX11_set_13 : decode cX11_set 13 = .ok (.i2l, 1) := by decide +kernel
theorem dX11_set_14 : decode cX11_set 14 = .ok (.lconst 0, 1) := by decide +kernel
theorem dX11_set_15 : decode cX11_set 15 = .ok (.ldc2_w 113, 3) := by decide +kernel
theorem dX11_set_18 : decode cX11_set 18 = .ok (.invokestatic 99, 3) := by decide +kernel
theorem dX11_set_21 : decode cX11_set 21 = .ok (.ifCond .ne 6, 3) := by decide +kernel
theorem dX11_set_24 : decode cX11_set 24 = .ok (.bipush (-2), 2) := by decide +kernel
theorem dX11_set_26 : decode cX11_set 26 = .ok (.ireturn, 1) := by decide +kernel
theorem dX11_set_27 : decode cX11_set 27 = .ok (.iload_n 1, 1) := by decide +kernel
theorem dX11_set_28 : decode cX11_set 28 = .ok (.iload_n 2, 1) := by decide +kernel
theorem dX11_set_29 : decode cX11_set 29 = .ok (.iload_n 3, 1) := by decide +kernel
theorem dX11_set_30 : decode cX11_set 30 = .ok (.invokestatic 115, 3) := by decide +kernel
theorem dX11_set_33 : decode cX11_set 33 = .ok (.istore 5, 2) := by decide +kernel
theorem dX11_set_35 : decode cX11_set 35 = .ok (.aload_n 0, 1) := by decide +kernel
theorem dX11_set_36 : decode cX11_set 36 = .ok (.getfield 11, 3) := by decide +kernel
theorem dX11_set_39 : decode cX11_set 39 = .ok (.iload 5, 2) := by decide +kernel
theorem dX11_set_41 : decode cX11_set 41 = .ok (.iaload, 1) := by decide +kernel
theorem dX11_set_42 : decode cX11_set 42 = .ok (.istore 6, 2) := by decide +kernel
theorem dX11_set_44 : decode cX11_set 44 = .ok (.aload_n 0, 1) := by decide +kernel
theorem dX11_set_45 : decode cX11_set 45 = .ok (.getfield 11, 3) := by decide +kernel
theorem dX11_set_48 : decode cX11_set 48 = .ok (.iload 5, 2) := by decide +kernel
theorem dX11_set_50 : decode cX11_set 50 = .ok (.iload 4, 2) := by decide +kernel
theorem dX11_set_52 : decode cX11_set 52 = .ok (.iastore, 1) := by decide +kernel
theorem dX11_set_53 : decode cX11_set 53 = .ok (.iload 6, 2) := by decide +kernel
theorem dX11_set_55 : decode cX11_set 55 = .ok (.ireturn, 1) := by decide +kernel
theorem dX11_of_0 : decode cX11_of 0 = .ok (.iload_n 1, 1) := by decide +kernel
theorem dX11_of_1 : decode cX11_of 1 = .ok (.iload_n 2, 1) := by decide +kernel
theorem dX11_of_2 : decode cX11_of 2 = .ok (.iload_n 3, 1) := by decide +kernel
theorem dX11_of_3 : decode cX11_of 3 = .ok (.invokestatic 109, 3) := by decide +kernel
theorem dX11_of_6 : decode cX11_of 6 = .ok (.ifCond .eq 17, 3) := by decide +kernel
theorem dX11_of_9 : decode cX11_of 9 = .ok (.aload_n 0, 1) := by decide +kernel
theorem dX11_of_10 : decode cX11_of 10 = .ok (.getfield 11, 3) := by decide +kernel
theorem dX11_of_13 : decode cX11_of 13 = .ok (.iload_n 1, 1) := by decide +kernel
theorem dX11_of_14 : decode cX11_of 14 = .ok (.iload_n 2, 1) := by decide +kernel
theorem dX11_of_15 : decode cX11_of 15 = .ok (.iload_n 3, 1) := by decide +kernel
theorem dX11_of_16 : decode cX11_of 16 = .ok (.invokestatic 115, 3) := by decide +kernel
theorem dX11_of_19 : decode cX11_of 19 = .ok (.iaload, 1) := by decide +kernel
theorem dX11_of_20 : decode cX11_of 20 = .ok (.goto 4, 3) := by decide +kernel
theorem dX11_of_23 : decode cX11_of 23 = .ok (.iconst (-1), 1) := by decide +kernel
theorem dX11_of_24 : decode cX11_of 24 = .ok (.ireturn, 1) := by decide +kernel
theorem dX11_power_0 : decode cX11_power 0 = .ok (.iload_n 0, 1) := by decide +kernel
theorem dX11_power_1 : decode cX11_power 1 = .ok (.bipush 31, 2) := by decide +kernel
theorem dX11_power_3 : decode cX11_power 3 = .ok (.if_icmp .ne 14, 3) := by decide +kernel
theorem dX11_power_6 : decode cX11_power 6 = .ok (.iload_n 1, 1) := by decide +kernel
theorem dX11_power_7 : decode cX11_power 7 = .ok (.iconst 2, 1) := by decide +kernel
theorem dX11_power_8 : decode cX11_power 8 = .ok (.if_icmp .ne 7, 3) := by decide +kernel
theorem dX11_power_11 : decode cX11_power 11 = .ok (.iconst 1, 1) := by decide +kernel
theorem dX11_power_12 : decode cX11_power 12 = .ok (.goto 4, 3) := by decide +kernel
theorem dX11_power_15 : decode cX11_power 15 = .ok (.iconst 0, 1) := by decide +kernel
theorem dX11_power_16 : decode cX11_power 16 = .ok (.ireturn, 1) := by decide +kernel
theorem dX11_power_17 : decode cX11_power 17 = .ok (.iload_n 1, 1) := by decide +kernel
theorem dX11_power_18 : decode cX11_power 18 = .ok (.ifCond .ne 7, 3) := by decide +kernel
theorem dX11_power_21 : decode cX11_power 21 = .ok (.iconst 1, 1) := by decide +kernel
theorem dX11_power_22 : decode cX11_power 22 = .ok (.goto 18, 3) := by decide +kernel
theorem dX11_power_25 : decode cX11_power 25 = .ok (.iload_n 1, 1) := by decide +kernel
theorem dX11_power_26 : decode cX11_power 26 = .ok (.iconst 1, 1) := by decide +kernel
theorem dX11_power_27 : decode cX11_power 27 = .ok (.if_icmp .ne 7, 3) := by decide +kernel
theorem dX11_power_30 : decode cX11_power 30 = .ok (.iload_n 0, 1) := by decide +kernel
theorem dX11_power_31 : decode cX11_power 31 = .ok (.goto 9, 3) := by decide +kernel
theorem dX11_power_34 : decode cX11_power 34 = .ok (.iload_n 0, 1) := by decide +kernel
theorem dX11_power_35 : decode cX11_power 35 = .ok (.iload_n 0, 1) := by decide +kernel
theorem dX11_power_36 : decode cX11_power 36 = .ok (.imul, 1) := by decide +kernel
theorem dX11_power_37 : decode cX11_power 37 = .ok (.bipush 31, 2) := by decide +kernel
theorem dX11_power_39 : decode cX11_power 39 = .ok (.irem, 1) := by decide +kernel
theorem dX11_power_40 : decode cX11_power 40 = .ok (.ireturn, 1) := by decide +kernel
theorem dX11_valueAt_0 : decode cX11_valueAt 0 = .ok (.iconst 0, 1) := by decide +kernel
theorem dX11_valueAt_1 : decode cX11_valueAt 1 = .ok (.istore 4, 2) := by decide +kernel
theorem dX11_valueAt_3 : decode cX11_valueAt 3 = .ok (.iconst 0, 1) := by decide +kernel
theorem dX11_valueAt_4 : decode cX11_valueAt 4 = .ok (.istore 5, 2) := by decide +kernel
theorem dX11_valueAt_6 : decode cX11_valueAt 6 = .ok (.iload 5, 2) := by decide +kernel
theorem dX11_valueAt_8 : decode cX11_valueAt 8 = .ok (.iconst 3, 1) := by decide +kernel
theorem dX11_valueAt_9 : decode cX11_valueAt 9 = .ok (.if_icmp .ge 62, 3) := by decide +kernel
theorem dX11_valueAt_12 : decode cX11_valueAt 12 = .ok (.iconst 0, 1) := by decide +kernel
theorem dX11_valueAt_13 : decode cX11_valueAt 13 = .ok (.istore 6, 2) := by decide +kernel
theorem dX11_valueAt_15 : decode cX11_valueAt 15 = .ok (.iload 6, 2) := by decide +kernel
theorem dX11_valueAt_17 : decode cX11_valueAt 17 = .ok (.iconst 3, 1) := by decide +kernel
theorem dX11_valueAt_18 : decode cX11_valueAt 18 = .ok (.if_icmp .ge 47, 3) := by decide +kernel
theorem dX11_valueAt_21 : decode cX11_valueAt 21 = .ok (.iload 4, 2) := by decide +kernel
theorem dX11_valueAt_23 : decode cX11_valueAt 23 = .ok (.aload_n 0, 1) := by decide +kernel
theorem dX11_valueAt_24 : decode cX11_valueAt 24 = .ok (.getfield 11, 3) := by decide +kernel
theorem dX11_valueAt_27 : decode cX11_valueAt 27 = .ok (.iload_n 1, 1) := by decide +kernel
theorem dX11_valueAt_28 : decode cX11_valueAt 28 = .ok (.iload 5, 2) := by decide +kernel
theorem dX11_valueAt_30 : decode cX11_valueAt 30 = .ok (.iload 6, 2) := by decide +kernel
theorem dX11_valueAt_32 : decode cX11_valueAt 32 = .ok (.invokestatic 115, 3) := by decide +kernel
theorem dX11_valueAt_35 : decode cX11_valueAt 35 = .ok (.iaload, 1) := by decide +kernel
theorem dX11_valueAt_36 : decode cX11_valueAt 36 = .ok (.iload_n 2, 1) := by decide +kernel
theorem dX11_valueAt_37 : decode cX11_valueAt 37 = .ok (.iload 5, 2) := by decide +kernel
theorem dX11_valueAt_39 : decode cX11_valueAt 39 = .ok (.invokestatic 119, 3) := by decide +kernel
theorem dX11_valueAt_42 : decode cX11_valueAt 42 = .ok (.imul, 1) := by decide +kernel
theorem dX11_valueAt_43 : decode cX11_valueAt 43 = .ok (.bipush 31, 2) := by decide +kernel
theorem dX11_valueAt_45 : decode cX11_valueAt 45 = .ok (.irem, 1) := by decide +kernel
theorem dX11_valueAt_46 : decode cX11_valueAt 46 = .ok (.iload_n 3, 1) := by decide +kernel
theorem dX11_valueAt_47 : decode cX11_valueAt 47 = .ok (.iload 6, 2) := by decide +kernel
theorem dX11_valueAt_49 : decode cX11_valueAt 49 = .ok (.invokestatic 119, 3) := by decide +kernel
theorem dX11_valueAt_52 : decode cX11_valueAt 52 = .ok (.imul, 1) := by decide +kernel
theorem dX11_valueAt_53 : decode cX11_valueAt 53 = .ok (.bipush 31, 2) := by decide +kernel
theorem dX11_valueAt_55 : decode cX11_valueAt 55 = .ok (.irem, 1) := by decide +kernel
theorem dX11_valueAt_56 : decode cX11_valueAt 56 = .ok (.iadd, 1) := by decide +kernel
theorem dX11_valueAt_57 : decode cX11_valueAt 57 = .ok (.istore 4, 2) := by decide +kernel
theorem dX11_valueAt_59 : decode cX11_valueAt 59 = .ok (.iinc 6 1, 3) := by decide +kernel
theorem dX11_valueAt_62 : decode cX11_valueAt 62 = .ok (.goto (-47), 3) := by decide +kernel
theorem dX11_valueAt_65 : decode cX11_valueAt 65 = .ok (.iinc 5 1, 3) := by decide +kernel
theorem dX11_valueAt_68 : decode cX11_valueAt 68 = .ok (.goto (-62), 3) := by decide +kernel
theorem dX11_valueAt_71 : decode cX11_valueAt 71 = .ok (.iload 4, 2) := by decide +kernel
theorem dX11_valueAt_73 : decode cX11_valueAt 73 = .ok (.bipush 31, 2) := by decide +kernel
theorem dX11_valueAt_75 : decode cX11_valueAt 75 = .ok (.irem, 1) := by decide +kernel
theorem dX11_valueAt_76 : decode cX11_valueAt 76 = .ok (.ireturn, 1) := by decide +kernel
theorem dX11_value_0 : decode cX11_value 0 = .ok (.iload_n 1, 1) := by decide +kernel
theorem dX11_value_1 : decode cX11_value 1 = .ok (.i2l, 1) := by decide +kernel
theorem dX11_value_2 : decode cX11_value 2 = .ok (.lconst 0, 1) := by decide +kernel
theorem dX11_value_3 : decode cX11_value 3 = .ok (.lconst 1, 1) := by decide +kernel
theorem dX11_value_4 : decode cX11_value 4 = .ok (.invokestatic 99, 3) := by decide +kernel
theorem dX11_value_7 : decode cX11_value 7 = .ok (.ifCond .eq 21, 3) := by decide +kernel
theorem dX11_value_10 : decode cX11_value 10 = .ok (.iload_n 2, 1) := by decide +kernel
theorem dX11_value_11 : decode cX11_value 11 = .ok (.iload_n 3, 1) := by decide +kernel
theorem dX11_value_12 : decode cX11_value 12 = .ok (.invokestatic 123, 3) := by decide +kernel
theorem dX11_value_15 : decode cX11_value 15 = .ok (.ifCond .eq 13, 3) := by decide +kernel
theorem dX11_value_18 : decode cX11_value 18 = .ok (.aload_n 0, 1) := by decide +kernel
theorem dX11_value_19 : decode cX11_value 19 = .ok (.iload_n 1, 1) := by decide +kernel
theorem dX11_value_20 : decode cX11_value 20 = .ok (.iload_n 2, 1) := by decide +kernel
theorem dX11_value_21 : decode cX11_value 21 = .ok (.iload_n 3, 1) := by decide +kernel
theorem dX11_value_22 : decode cX11_value 22 = .ok (.invokevirtual 127, 3) := by decide +kernel
theorem dX11_value_25 : decode cX11_value 25 = .ok (.goto 4, 3) := by decide +kernel
theorem dX11_value_28 : decode cX11_value 28 = .ok (.iconst (-1), 1) := by decide +kernel
theorem dX11_value_29 : decode cX11_value 29 = .ok (.ireturn, 1) := by decide +kernel
theorem dX11_keptAt_0 : decode cX11_keptAt 0 = .ok (.aload_n 0, 1) := by decide +kernel
theorem dX11_keptAt_1 : decode cX11_keptAt 1 = .ok (.iconst 0, 1) := by decide +kernel
theorem dX11_keptAt_2 : decode cX11_keptAt 2 = .ok (.iload_n 1, 1) := by decide +kernel
theorem dX11_keptAt_3 : decode cX11_keptAt 3 = .ok (.iload_n 2, 1) := by decide +kernel
theorem dX11_keptAt_4 : decode cX11_keptAt 4 = .ok (.invokevirtual 127, 3) := by decide +kernel
theorem dX11_keptAt_7 : decode cX11_keptAt 7 = .ok (.aload_n 0, 1) := by decide +kernel
theorem dX11_keptAt_8 : decode cX11_keptAt 8 = .ok (.iconst 1, 1) := by decide +kernel
theorem dX11_keptAt_9 : decode cX11_keptAt 9 = .ok (.iload_n 1, 1) := by decide +kernel
theorem dX11_keptAt_10 : decode cX11_keptAt 10 = .ok (.iload_n 2, 1) := by decide +kernel
theorem dX11_keptAt_11 : decode cX11_keptAt 11 = .ok (.invokevirtual 127, 3) := by decide +kernel
theorem dX11_keptAt_14 : decode cX11_keptAt 14 = .ok (.invokestatic 130, 3) := by decide +kernel
theorem dX11_keptAt_17 : decode cX11_keptAt 17 = .ok (.ireturn, 1) := by decide +kernel
theorem dX11_kept_0 : decode cX11_kept 0 = .ok (.iload_n 1, 1) := by decide +kernel
theorem dX11_kept_1 : decode cX11_kept 1 = .ok (.iload_n 2, 1) := by decide +kernel
theorem dX11_kept_2 : decode cX11_kept 2 = .ok (.invokestatic 123, 3) := by decide +kernel
theorem dX11_kept_5 : decode cX11_kept 5 = .ok (.ifCond .eq 12, 3) := by decide +kernel
theorem dX11_kept_8 : decode cX11_kept 8 = .ok (.aload_n 0, 1) := by decide +kernel
theorem dX11_kept_9 : decode cX11_kept 9 = .ok (.iload_n 1, 1) := by decide +kernel
theorem dX11_kept_10 : decode cX11_kept 10 = .ok (.iload_n 2, 1) := by decide +kernel
theorem dX11_kept_11 : decode cX11_kept 11 = .ok (.invokevirtual 133, 3) := by decide +kernel
theorem dX11_kept_14 : decode cX11_kept 14 = .ok (.goto 4, 3) := by decide +kernel
theorem dX11_kept_17 : decode cX11_kept 17 = .ok (.iconst (-1), 1) := by decide +kernel
theorem dX11_kept_18 : decode cX11_kept 18 = .ok (.ireturn, 1) := by decide +kernel
theorem dX11_rowAt_0 : decode cX11_rowAt 0 = .ok (.iconst 0, 1) := by decide +kernel
theorem dX11_rowAt_1 : decode cX11_rowAt 1 = .ok (.istore 5, 2) := by decide +kernel
theorem dX11_rowAt_3 : decode cX11_rowAt 3 = .ok (.iconst 0, 1) := by decide +kernel
theorem dX11_rowAt_4 : decode cX11_rowAt 4 = .ok (.istore 6, 2) := by decide +kernel
theorem dX11_rowAt_6 : decode cX11_rowAt 6 = .ok (.iload 6, 2) := by decide +kernel
theorem dX11_rowAt_8 : decode cX11_rowAt 8 = .ok (.iconst 3, 1) := by decide +kernel
theorem dX11_rowAt_9 : decode cX11_rowAt 9 = .ok (.if_icmp .ge 53, 3) := by decide +kernel
theorem dX11_rowAt_12 : decode cX11_rowAt 12 = .ok (.iload 5, 2) := by decide +kernel
theorem dX11_rowAt_14 : decode cX11_rowAt 14 = .ok (.iload_n 2, 1) := by decide +kernel
theorem dX11_rowAt_15 : decode cX11_rowAt 15 = .ok (.ifCond .ne 18, 3) := by decide +kernel
theorem dX11_rowAt_18 : decode cX11_rowAt 18 = .ok (.aload_n 0, 1) := by decide +kernel
theorem dX11_rowAt_19 : decode cX11_rowAt 19 = .ok (.getfield 11, 3) := by decide +kernel
theorem dX11_rowAt_22 : decode cX11_rowAt 22 = .ok (.iload_n 1, 1) := by decide +kernel
theorem dX11_rowAt_23 : decode cX11_rowAt 23 = .ok (.iload_n 3, 1) := by decide +kernel
theorem dX11_rowAt_24 : decode cX11_rowAt 24 = .ok (.iload 6, 2) := by decide +kernel
theorem dX11_rowAt_26 : decode cX11_rowAt 26 = .ok (.invokestatic 115, 3) := by decide +kernel
theorem dX11_rowAt_29 : decode cX11_rowAt 29 = .ok (.iaload, 1) := by decide +kernel
theorem dX11_rowAt_30 : decode cX11_rowAt 30 = .ok (.goto 15, 3) := by decide +kernel
theorem dX11_rowAt_33 : decode cX11_rowAt 33 = .ok (.aload_n 0, 1) := by decide +kernel
theorem dX11_rowAt_34 : decode cX11_rowAt 34 = .ok (.getfield 11, 3) := by decide +kernel
theorem dX11_rowAt_37 : decode cX11_rowAt 37 = .ok (.iload_n 1, 1) := by decide +kernel
theorem dX11_rowAt_38 : decode cX11_rowAt 38 = .ok (.iload 6, 2) := by decide +kernel
theorem dX11_rowAt_40 : decode cX11_rowAt 40 = .ok (.iload_n 3, 1) := by decide +kernel
theorem dX11_rowAt_41 : decode cX11_rowAt 41 = .ok (.invokestatic 115, 3) := by decide +kernel
theorem dX11_rowAt_44 : decode cX11_rowAt 44 = .ok (.iaload, 1) := by decide +kernel
theorem dX11_rowAt_45 : decode cX11_rowAt 45 = .ok (.iload 4, 2) := by decide +kernel
theorem dX11_rowAt_47 : decode cX11_rowAt 47 = .ok (.iload 6, 2) := by decide +kernel
theorem dX11_rowAt_49 : decode cX11_rowAt 49 = .ok (.invokestatic 119, 3) := by decide +kernel
theorem dX11_rowAt_52 : decode cX11_rowAt 52 = .ok (.imul, 1) := by decide +kernel
theorem dX11_rowAt_53 : decode cX11_rowAt 53 = .ok (.iadd, 1) := by decide +kernel
theorem dX11_rowAt_54 : decode cX11_rowAt 54 = .ok (.istore 5, 2) := by decide +kernel
theorem dX11_rowAt_56 : decode cX11_rowAt 56 = .ok (.iinc 6 1, 3) := by decide +kernel
theorem dX11_rowAt_59 : decode cX11_rowAt 59 = .ok (.goto (-53), 3) := by decide +kernel
theorem dX11_rowAt_62 : decode cX11_rowAt 62 = .ok (.iload 5, 2) := by decide +kernel
theorem dX11_rowAt_64 : decode cX11_rowAt 64 = .ok (.bipush 31, 2) := by decide +kernel
theorem dX11_rowAt_66 : decode cX11_rowAt 66 = .ok (.irem, 1) := by decide +kernel
theorem dX11_rowAt_67 : decode cX11_rowAt 67 = .ok (.ireturn, 1) := by decide +kernel
theorem dX11_crossed_0 : decode cX11_crossed 0 = .ok (.iload_n 3, 1) := by decide +kernel
theorem dX11_crossed_1 : decode cX11_crossed 1 = .ok (.iconst 2, 1) := by decide +kernel
theorem dX11_crossed_2 : decode cX11_crossed 2 = .ok (.if_icmp .ne 7, 3) := by decide +kernel
theorem dX11_crossed_5 : decode cX11_crossed 5 = .ok (.iconst 1, 1) := by decide +kernel
theorem dX11_crossed_6 : decode cX11_crossed 6 = .ok (.goto 4, 3) := by decide +kernel
theorem dX11_crossed_9 : decode cX11_crossed 9 = .ok (.iconst 2, 1) := by decide +kernel
theorem dX11_crossed_10 : decode cX11_crossed 10 = .ok (.istore 4, 2) := by decide +kernel
theorem dX11_crossed_12 : decode cX11_crossed 12 = .ok (.iload_n 3, 1) := by decide +kernel
theorem dX11_crossed_13 : decode cX11_crossed 13 = .ok (.ifCond .ne 7, 3) := by decide +kernel
theorem dX11_crossed_16 : decode cX11_crossed 16 = .ok (.iconst 1, 1) := by decide +kernel
theorem dX11_crossed_17 : decode cX11_crossed 17 = .ok (.goto 4, 3) := by decide +kernel
theorem dX11_crossed_20 : decode cX11_crossed 20 = .ok (.iconst 0, 1) := by decide +kernel
theorem dX11_crossed_21 : decode cX11_crossed 21 = .ok (.istore 5, 2) := by decide +kernel
theorem dX11_crossed_23 : decode cX11_crossed 23 = .ok (.aload_n 0, 1) := by decide +kernel
theorem dX11_crossed_24 : decode cX11_crossed 24 = .ok (.iconst 0, 1) := by decide +kernel
theorem dX11_crossed_25 : decode cX11_crossed 25 = .ok (.iload_n 1, 1) := by decide +kernel
theorem dX11_crossed_26 : decode cX11_crossed 26 = .ok (.iload 4, 2) := by decide +kernel
theorem dX11_crossed_28 : decode cX11_crossed 28 = .ok (.iload_n 2, 1) := by decide +kernel
theorem dX11_crossed_29 : decode cX11_crossed 29 = .ok (.invokevirtual 136, 3) := by decide +kernel
theorem dX11_crossed_32 : decode cX11_crossed 32 = .ok (.aload_n 0, 1) := by decide +kernel
theorem dX11_crossed_33 : decode cX11_crossed 33 = .ok (.iconst 1, 1) := by decide +kernel
theorem dX11_crossed_34 : decode cX11_crossed 34 = .ok (.iload_n 1, 1) := by decide +kernel
theorem dX11_crossed_35 : decode cX11_crossed 35 = .ok (.iload 5, 2) := by decide +kernel
theorem dX11_crossed_37 : decode cX11_crossed 37 = .ok (.iload_n 2, 1) := by decide +kernel
theorem dX11_crossed_38 : decode cX11_crossed 38 = .ok (.invokevirtual 136, 3) := by decide +kernel
theorem dX11_crossed_41 : decode cX11_crossed 41 = .ok (.imul, 1) := by decide +kernel
theorem dX11_crossed_42 : decode cX11_crossed 42 = .ok (.aload_n 0, 1) := by decide +kernel
theorem dX11_crossed_43 : decode cX11_crossed 43 = .ok (.iconst 0, 1) := by decide +kernel
theorem dX11_crossed_44 : decode cX11_crossed 44 = .ok (.iload_n 1, 1) := by decide +kernel
theorem dX11_crossed_45 : decode cX11_crossed 45 = .ok (.iload 5, 2) := by decide +kernel
theorem dX11_crossed_47 : decode cX11_crossed 47 = .ok (.iload_n 2, 1) := by decide +kernel
theorem dX11_crossed_48 : decode cX11_crossed 48 = .ok (.invokevirtual 136, 3) := by decide +kernel
theorem dX11_crossed_51 : decode cX11_crossed 51 = .ok (.aload_n 0, 1) := by decide +kernel
theorem dX11_crossed_52 : decode cX11_crossed 52 = .ok (.iconst 1, 1) := by decide +kernel
theorem dX11_crossed_53 : decode cX11_crossed 53 = .ok (.iload_n 1, 1) := by decide +kernel
theorem dX11_crossed_54 : decode cX11_crossed 54 = .ok (.iload 4, 2) := by decide +kernel
theorem dX11_crossed_56 : decode cX11_crossed 56 = .ok (.iload_n 2, 1) := by decide +kernel
theorem dX11_crossed_57 : decode cX11_crossed 57 = .ok (.invokevirtual 136, 3) := by decide +kernel
theorem dX11_crossed_60 : decode cX11_crossed 60 = .ok (.imul, 1) := by decide +kernel
theorem dX11_crossed_61 : decode cX11_crossed 61 = .ok (.isub, 1) := by decide +kernel
theorem dX11_crossed_62 : decode cX11_crossed 62 = .ok (.invokestatic 140, 3) := by decide +kernel
theorem dX11_crossed_65 : decode cX11_crossed 65 = .ok (.ireturn, 1) := by decide +kernel
theorem dX11_row_0 : decode cX11_row 0 = .ok (.iload_n 1, 1) := by decide +kernel
theorem dX11_row_1 : decode cX11_row 1 = .ok (.i2l, 1) := by decide +kernel
theorem dX11_row_2 : decode cX11_row 2 = .ok (.lconst 0, 1) := by decide +kernel
theorem dX11_row_3 : decode cX11_row 3 = .ok (.lconst 1, 1) := by decide +kernel
theorem dX11_row_4 : decode cX11_row 4 = .ok (.invokestatic 99, 3) := by decide +kernel
theorem dX11_row_7 : decode cX11_row 7 = .ok (.ifCond .eq 32, 3) := by decide +kernel
theorem dX11_row_10 : decode cX11_row 10 = .ok (.iload_n 2, 1) := by decide +kernel
theorem dX11_row_11 : decode cX11_row 11 = .ok (.invokestatic 103, 3) := by decide +kernel
theorem dX11_row_14 : decode cX11_row 14 = .ok (.ifCond .eq 25, 3) := by decide +kernel
theorem dX11_row_17 : decode cX11_row 17 = .ok (.iload_n 3, 1) := by decide +kernel
theorem dX11_row_18 : decode cX11_row 18 = .ok (.i2l, 1) := by decide +kernel
theorem dX11_row_19 : decode cX11_row 19 = .ok (.lconst 0, 1) := by decide +kernel
theorem dX11_row_20 : decode cX11_row 20 = .ok (.ldc2_w 107, 3) := by decide +kernel
theorem dX11_row_23 : decode cX11_row 23 = .ok (.invokestatic 99, 3) := by decide +kernel
theorem dX11_row_26 : decode cX11_row 26 = .ok (.ifCond .eq 13, 3) := by decide +kernel
theorem dX11_row_29 : decode cX11_row 29 = .ok (.aload_n 0, 1) := by decide +kernel
theorem dX11_row_30 : decode cX11_row 30 = .ok (.iload_n 1, 1) := by decide +kernel
theorem dX11_row_31 : decode cX11_row 31 = .ok (.iload_n 2, 1) := by decide +kernel
theorem dX11_row_32 : decode cX11_row 32 = .ok (.iload_n 3, 1) := by decide +kernel
theorem dX11_row_33 : decode cX11_row 33 = .ok (.invokevirtual 143, 3) := by decide +kernel
theorem dX11_row_36 : decode cX11_row 36 = .ok (.goto 4, 3) := by decide +kernel
theorem dX11_row_39 : decode cX11_row 39 = .ok (.iconst (-1), 1) := by decide +kernel
theorem dX11_row_40 : decode cX11_row 40 = .ok (.ireturn, 1) := by decide +kernel
theorem dX11_other_0 : decode cX11_other 0 = .ok (.aload_n 0, 1) := by decide +kernel
theorem dX11_other_1 : decode cX11_other 1 = .ok (.iload_n 1, 1) := by decide +kernel
theorem dX11_other_2 : decode cX11_other 2 = .ok (.iload_n 3, 1) := by decide +kernel
theorem dX11_other_3 : decode cX11_other 3 = .ok (.iconst 0, 1) := by decide +kernel
theorem dX11_other_4 : decode cX11_other 4 = .ok (.invokevirtual 143, 3) := by decide +kernel
theorem dX11_other_7 : decode cX11_other 7 = .ok (.istore 4, 2) := by decide +kernel
theorem dX11_other_9 : decode cX11_other 9 = .ok (.aload_n 0, 1) := by decide +kernel
theorem dX11_other_10 : decode cX11_other 10 = .ok (.iload_n 1, 1) := by decide +kernel
theorem dX11_other_11 : decode cX11_other 11 = .ok (.iload_n 3, 1) := by decide +kernel
theorem dX11_other_12 : decode cX11_other 12 = .ok (.iconst 1, 1) := by decide +kernel
theorem dX11_other_13 : decode cX11_other 13 = .ok (.invokevirtual 143, 3) := by decide +kernel
theorem dX11_other_16 : decode cX11_other 16 = .ok (.istore 5, 2) := by decide +kernel
theorem dX11_other_18 : decode cX11_other 18 = .ok (.aload_n 0, 1) := by decide +kernel
theorem dX11_other_19 : decode cX11_other 19 = .ok (.iload_n 1, 1) := by decide +kernel
theorem dX11_other_20 : decode cX11_other 20 = .ok (.iload_n 3, 1) := by decide +kernel
theorem dX11_other_21 : decode cX11_other 21 = .ok (.iconst 2, 1) := by decide +kernel
theorem dX11_other_22 : decode cX11_other 22 = .ok (.invokevirtual 143, 3) := by decide +kernel
theorem dX11_other_25 : decode cX11_other 25 = .ok (.istore 6, 2) := by decide +kernel
theorem dX11_other_27 : decode cX11_other 27 = .ok (.iload_n 2, 1) := by decide +kernel
theorem dX11_other_28 : decode cX11_other 28 = .ok (.bipush 31, 2) := by decide +kernel
theorem dX11_other_30 : decode cX11_other 30 = .ok (.if_icmp .ne 17, 3) := by decide +kernel
theorem dX11_other_33 : decode cX11_other 33 = .ok (.iload 5, 2) := by decide +kernel
theorem dX11_other_35 : decode cX11_other 35 = .ok (.ineg, 1) := by decide +kernel
theorem dX11_other_36 : decode cX11_other 36 = .ok (.invokestatic 140, 3) := by decide +kernel
theorem dX11_other_39 : decode cX11_other 39 = .ok (.iload 4, 2) := by decide +kernel
theorem dX11_other_41 : decode cX11_other 41 = .ok (.invokestatic 130, 3) := by decide +kernel
theorem dX11_other_44 : decode cX11_other 44 = .ok (.goto 27, 3) := by decide +kernel
theorem dX11_other_47 : decode cX11_other 47 = .ok (.iload 5, 2) := by decide +kernel
theorem dX11_other_49 : decode cX11_other 49 = .ok (.iload_n 2, 1) := by decide +kernel
theorem dX11_other_50 : decode cX11_other 50 = .ok (.imul, 1) := by decide +kernel
theorem dX11_other_51 : decode cX11_other 51 = .ok (.iload 6, 2) := by decide +kernel
theorem dX11_other_53 : decode cX11_other 53 = .ok (.iadd, 1) := by decide +kernel
theorem dX11_other_54 : decode cX11_other 54 = .ok (.ineg, 1) := by decide +kernel
theorem dX11_other_55 : decode cX11_other 55 = .ok (.invokestatic 140, 3) := by decide +kernel
theorem dX11_other_58 : decode cX11_other 58 = .ok (.iload 4, 2) := by decide +kernel
theorem dX11_other_60 : decode cX11_other 60 = .ok (.iload_n 2, 1) := by decide +kernel
theorem dX11_other_61 : decode cX11_other 61 = .ok (.imul, 1) := by decide +kernel
theorem dX11_other_62 : decode cX11_other 62 = .ok (.iload 5, 2) := by decide +kernel
theorem dX11_other_64 : decode cX11_other 64 = .ok (.iadd, 1) := by decide +kernel
theorem dX11_other_65 : decode cX11_other 65 = .ok (.invokestatic 140, 3) := by decide +kernel
theorem dX11_other_68 : decode cX11_other 68 = .ok (.invokestatic 130, 3) := by decide +kernel
theorem dX11_other_71 : decode cX11_other 71 = .ok (.istore 7, 2) := by decide +kernel
theorem dX11_other_73 : decode cX11_other 73 = .ok (.iload 7, 2) := by decide +kernel
theorem dX11_other_75 : decode cX11_other 75 = .ok (.bipush (-6), 2) := by decide +kernel
theorem dX11_other_77 : decode cX11_other 77 = .ok (.if_icmp .ne 8, 3) := by decide +kernel
theorem dX11_other_80 : decode cX11_other 80 = .ok (.bipush (-7), 2) := by decide +kernel
theorem dX11_other_82 : decode cX11_other 82 = .ok (.goto 5, 3) := by decide +kernel
theorem dX11_other_85 : decode cX11_other 85 = .ok (.iload 7, 2) := by decide +kernel
theorem dX11_other_87 : decode cX11_other 87 = .ok (.ireturn, 1) := by decide +kernel
theorem dX11_swap_0 : decode cX11_swap 0 = .ok (.iload_n 1, 1) := by decide +kernel
theorem dX11_swap_1 : decode cX11_swap 1 = .ok (.i2l, 1) := by decide +kernel
theorem dX11_swap_2 : decode cX11_swap 2 = .ok (.lconst 0, 1) := by decide +kernel
theorem dX11_swap_3 : decode cX11_swap 3 = .ok (.lconst 1, 1) := by decide +kernel
theorem dX11_swap_4 : decode cX11_swap 4 = .ok (.invokestatic 99, 3) := by decide +kernel
theorem dX11_swap_7 : decode cX11_swap 7 = .ok (.ifCond .eq 37, 3) := by decide +kernel
theorem dX11_swap_10 : decode cX11_swap 10 = .ok (.iload_n 2, 1) := by decide +kernel
theorem dX11_swap_11 : decode cX11_swap 11 = .ok (.iload_n 3, 1) := by decide +kernel
theorem dX11_swap_12 : decode cX11_swap 12 = .ok (.invokestatic 123, 3) := by decide +kernel
theorem dX11_swap_15 : decode cX11_swap 15 = .ok (.ifCond .eq 29, 3) := by decide +kernel
theorem dX11_swap_18 : decode cX11_swap 18 = .ok (.aload_n 0, 1) := by decide +kernel
theorem dX11_swap_19 : decode cX11_swap 19 = .ok (.iload_n 1, 1) := by decide +kernel
theorem dX11_swap_20 : decode cX11_swap 20 = .ok (.iload_n 1, 1) := by decide +kernel
theorem dX11_swap_21 : decode cX11_swap 21 = .ok (.ifCond .ne 7, 3) := by decide +kernel
theorem dX11_swap_24 : decode cX11_swap 24 = .ok (.iload_n 2, 1) := by decide +kernel
theorem dX11_swap_25 : decode cX11_swap 25 = .ok (.goto 4, 3) := by decide +kernel
theorem dX11_swap_28 : decode cX11_swap 28 = .ok (.iload_n 3, 1) := by decide +kernel
theorem dX11_swap_29 : decode cX11_swap 29 = .ok (.iload_n 1, 1) := by decide +kernel
theorem dX11_swap_30 : decode cX11_swap 30 = .ok (.ifCond .ne 7, 3) := by decide +kernel
theorem dX11_swap_33 : decode cX11_swap 33 = .ok (.iload_n 3, 1) := by decide +kernel
theorem dX11_swap_34 : decode cX11_swap 34 = .ok (.goto 4, 3) := by decide +kernel
theorem dX11_swap_37 : decode cX11_swap 37 = .ok (.iload_n 2, 1) := by decide +kernel
theorem dX11_swap_38 : decode cX11_swap 38 = .ok (.invokevirtual 146, 3) := by decide +kernel
theorem dX11_swap_41 : decode cX11_swap 41 = .ok (.goto 4, 3) := by decide +kernel
theorem dX11_swap_44 : decode cX11_swap 44 = .ok (.iconst (-1), 1) := by decide +kernel
theorem dX11_swap_45 : decode cX11_swap 45 = .ok (.ireturn, 1) := by decide +kernel
theorem dX11_pinched_0 : decode cX11_pinched 0 = .ok (.iload_n 1, 1) := by decide +kernel
theorem dX11_pinched_1 : decode cX11_pinched 1 = .ok (.i2l, 1) := by decide +kernel
theorem dX11_pinched_2 : decode cX11_pinched 2 = .ok (.lconst 0, 1) := by decide +kernel
theorem dX11_pinched_3 : decode cX11_pinched 3 = .ok (.lconst 1, 1) := by decide +kernel
theorem dX11_pinched_4 : decode cX11_pinched 4 = .ok (.invokestatic 99, 3) := by decide +kernel
theorem dX11_pinched_7 : decode cX11_pinched 7 = .ok (.ifCond .ne 7, 3) := by decide +kernel
theorem dX11_pinched_10 : decode cX11_pinched 10 = .ok (.ldc2_w 149, 3) := by decide +kernel
theorem dX11_pinched_13 : decode cX11_pinched 13 = .ok (.lreturn, 1) := by decide +kernel
theorem dX11_pinched_14 : decode cX11_pinched 14 = .ok (.lconst 0, 1) := by decide +kernel
theorem dX11_pinched_15 : decode cX11_pinched 15 = .ok (.lstore_n 2, 1) := by decide +kernel
theorem dX11_pinched_16 : decode cX11_pinched 16 = .ok (.iconst 0, 1) := by decide +kernel
theorem dX11_pinched_17 : decode cX11_pinched 17 = .ok (.istore 4, 2) := by decide +kernel
theorem dX11_pinched_19 : decode cX11_pinched 19 = .ok (.iload 4, 2) := by decide +kernel
theorem dX11_pinched_21 : decode cX11_pinched 21 = .ok (.bipush 31, 2) := by decide +kernel
theorem dX11_pinched_23 : decode cX11_pinched 23 = .ok (.if_icmp .gt 61, 3) := by decide +kernel
theorem dX11_pinched_26 : decode cX11_pinched 26 = .ok (.aload_n 0, 1) := by decide +kernel
theorem dX11_pinched_27 : decode cX11_pinched 27 = .ok (.iload_n 1, 1) := by decide +kernel
theorem dX11_pinched_28 : decode cX11_pinched 28 = .ok (.iload 4, 2) := by decide +kernel
theorem dX11_pinched_30 : decode cX11_pinched 30 = .ok (.iconst 1, 1) := by decide +kernel
theorem dX11_pinched_31 : decode cX11_pinched 31 = .ok (.invokevirtual 143, 3) := by decide +kernel
theorem dX11_pinched_34 : decode cX11_pinched 34 = .ok (.istore 5, 2) := by decide +kernel
theorem dX11_pinched_36 : decode cX11_pinched 36 = .ok (.lload_n 2, 1) := by decide +kernel
theorem dX11_pinched_37 : decode cX11_pinched 37 = .ok (.iload 5, 2) := by decide +kernel
theorem dX11_pinched_39 : decode cX11_pinched 39 = .ok (.iload 5, 2) := by decide +kernel
theorem dX11_pinched_41 : decode cX11_pinched 41 = .ok (.imul, 1) := by decide +kernel
theorem dX11_pinched_42 : decode cX11_pinched 42 = .ok (.bipush 31, 2) := by decide +kernel
theorem dX11_pinched_44 : decode cX11_pinched 44 = .ok (.irem, 1) := by decide +kernel
theorem dX11_pinched_45 : decode cX11_pinched 45 = .ok (.aload_n 0, 1) := by decide +kernel
theorem dX11_pinched_46 : decode cX11_pinched 46 = .ok (.iload_n 1, 1) := by decide +kernel
theorem dX11_pinched_47 : decode cX11_pinched 47 = .ok (.iload 4, 2) := by decide +kernel
theorem dX11_pinched_49 : decode cX11_pinched 49 = .ok (.iconst 0, 1) := by decide +kernel
theorem dX11_pinched_50 : decode cX11_pinched 50 = .ok (.invokevirtual 143, 3) := by decide +kernel
theorem dX11_pinched_53 : decode cX11_pinched 53 = .ok (.aload_n 0, 1) := by decide +kernel
theorem dX11_pinched_54 : decode cX11_pinched 54 = .ok (.iload_n 1, 1) := by decide +kernel
theorem dX11_pinched_55 : decode cX11_pinched 55 = .ok (.iload 4, 2) := by decide +kernel
theorem dX11_pinched_57 : decode cX11_pinched 57 = .ok (.iconst 2, 1) := by decide +kernel
theorem dX11_pinched_58 : decode cX11_pinched 58 = .ok (.invokevirtual 143, 3) := by decide +kernel
theorem dX11_pinched_61 : decode cX11_pinched 61 = .ok (.imul, 1) := by decide +kernel
theorem dX11_pinched_62 : decode cX11_pinched 62 = .ok (.bipush 31, 2) := by decide +kernel
theorem dX11_pinched_64 : decode cX11_pinched 64 = .ok (.irem, 1) := by decide +kernel
theorem dX11_pinched_65 : decode cX11_pinched 65 = .ok (.if_icmp .ne 10, 3) := by decide +kernel
theorem dX11_pinched_68 : decode cX11_pinched 68 = .ok (.lconst 1, 1) := by decide +kernel
theorem dX11_pinched_69 : decode cX11_pinched 69 = .ok (.iload 4, 2) := by decide +kernel
theorem dX11_pinched_71 : decode cX11_pinched 71 = .ok (.lshl, 1) := by decide +kernel
theorem dX11_pinched_72 : decode cX11_pinched 72 = .ok (.goto 4, 3) := by decide +kernel
theorem dX11_pinched_75 : decode cX11_pinched 75 = .ok (.lconst 0, 1) := by decide +kernel
theorem dX11_pinched_76 : decode cX11_pinched 76 = .ok (.lor, 1) := by decide +kernel
theorem dX11_pinched_77 : decode cX11_pinched 77 = .ok (.lstore_n 2, 1) := by decide +kernel
theorem dX11_pinched_78 : decode cX11_pinched 78 = .ok (.iinc 4 1, 3) := by decide +kernel
theorem dX11_pinched_81 : decode cX11_pinched 81 = .ok (.goto (-62), 3) := by decide +kernel
theorem dX11_pinched_84 : decode cX11_pinched 84 = .ok (.lload_n 2, 1) := by decide +kernel
theorem dX11_pinched_85 : decode cX11_pinched 85 = .ok (.lreturn, 1) := by decide +kernel
theorem dX11_swapped_0 : decode cX11_swapped 0 = .ok (.iload_n 1, 1) := by decide +kernel
theorem dX11_swapped_1 : decode cX11_swapped 1 = .ok (.bipush 32, 2) := by decide +kernel
theorem dX11_swapped_3 : decode cX11_swapped 3 = .ok (.idiv, 1) := by decide +kernel
theorem dX11_swapped_4 : decode cX11_swapped 4 = .ok (.istore_n 3, 1) := by decide +kernel
theorem dX11_swapped_5 : decode cX11_swapped 5 = .ok (.iload_n 1, 1) := by decide +kernel
theorem dX11_swapped_6 : decode cX11_swapped 6 = .ok (.bipush 32, 2) := by decide +kernel
theorem dX11_swapped_8 : decode cX11_swapped 8 = .ok (.irem, 1) := by decide +kernel
theorem dX11_swapped_9 : decode cX11_swapped 9 = .ok (.istore 4, 2) := by decide +kernel
theorem dX11_swapped_11 : decode cX11_swapped 11 = .ok (.iload_n 2, 1) := by decide +kernel
theorem dX11_swapped_12 : decode cX11_swapped 12 = .ok (.ifCond .ne 14, 3) := by decide +kernel
theorem dX11_swapped_15 : decode cX11_swapped 15 = .ok (.aload_n 0, 1) := by decide +kernel
theorem dX11_swapped_16 : decode cX11_swapped 16 = .ok (.iconst 0, 1) := by decide +kernel
theorem dX11_swapped_17 : decode cX11_swapped 17 = .ok (.iload_n 3, 1) := by decide +kernel
theorem dX11_swapped_18 : decode cX11_swapped 18 = .ok (.iload 4, 2) := by decide +kernel
theorem dX11_swapped_20 : decode cX11_swapped 20 = .ok (.invokevirtual 146, 3) := by decide +kernel
theorem dX11_swapped_23 : decode cX11_swapped 23 = .ok (.goto 11, 3) := by decide +kernel
theorem dX11_swapped_26 : decode cX11_swapped 26 = .ok (.aload_n 0, 1) := by decide +kernel
theorem dX11_swapped_27 : decode cX11_swapped 27 = .ok (.iconst 1, 1) := by decide +kernel
theorem dX11_swapped_28 : decode cX11_swapped 28 = .ok (.iload 4, 2) := by decide +kernel
theorem dX11_swapped_30 : decode cX11_swapped 30 = .ok (.iload_n 3, 1) := by decide +kernel
theorem dX11_swapped_31 : decode cX11_swapped 31 = .ok (.invokevirtual 146, 3) := by decide +kernel
theorem dX11_swapped_34 : decode cX11_swapped 34 = .ok (.istore 5, 2) := by decide +kernel
theorem dX11_swapped_36 : decode cX11_swapped 36 = .ok (.iload 5, 2) := by decide +kernel
theorem dX11_swapped_38 : decode cX11_swapped 38 = .ok (.bipush (-7), 2) := by decide +kernel
theorem dX11_swapped_40 : decode cX11_swapped 40 = .ok (.if_icmp .ne 8, 3) := by decide +kernel
theorem dX11_swapped_43 : decode cX11_swapped 43 = .ok (.bipush (-7), 2) := by decide +kernel
theorem dX11_swapped_45 : decode cX11_swapped 45 = .ok (.goto 25, 3) := by decide +kernel
theorem dX11_swapped_48 : decode cX11_swapped 48 = .ok (.iload_n 2, 1) := by decide +kernel
theorem dX11_swapped_49 : decode cX11_swapped 49 = .ok (.ifCond .ne 14, 3) := by decide +kernel
theorem dX11_swapped_52 : decode cX11_swapped 52 = .ok (.bipush 32, 2) := by decide +kernel
theorem dX11_swapped_54 : decode cX11_swapped 54 = .ok (.iload 5, 2) := by decide +kernel
theorem dX11_swapped_56 : decode cX11_swapped 56 = .ok (.imul, 1) := by decide +kernel
theorem dX11_swapped_57 : decode cX11_swapped 57 = .ok (.iload 4, 2) := by decide +kernel
theorem dX11_swapped_59 : decode cX11_swapped 59 = .ok (.iadd, 1) := by decide +kernel
theorem dX11_swapped_60 : decode cX11_swapped 60 = .ok (.goto 10, 3) := by decide +kernel
theorem dX11_swapped_63 : decode cX11_swapped 63 = .ok (.bipush 32, 2) := by decide +kernel
theorem dX11_swapped_65 : decode cX11_swapped 65 = .ok (.iload_n 3, 1) := by decide +kernel
theorem dX11_swapped_66 : decode cX11_swapped 66 = .ok (.imul, 1) := by decide +kernel
theorem dX11_swapped_67 : decode cX11_swapped 67 = .ok (.iload 5, 2) := by decide +kernel
theorem dX11_swapped_69 : decode cX11_swapped 69 = .ok (.iadd, 1) := by decide +kernel
theorem dX11_swapped_70 : decode cX11_swapped 70 = .ok (.ireturn, 1) := by decide +kernel
theorem dX11_step_0 : decode cX11_step 0 = .ok (.aload_n 0, 1) := by decide +kernel
theorem dX11_step_1 : decode cX11_step 1 = .ok (.iload_n 1, 1) := by decide +kernel
theorem dX11_step_2 : decode cX11_step 2 = .ok (.iload_n 2, 1) := by decide +kernel
theorem dX11_step_3 : decode cX11_step 3 = .ok (.ifCond .eq 7, 3) := by decide +kernel
theorem dX11_step_6 : decode cX11_step 6 = .ok (.iconst 1, 1) := by decide +kernel
theorem dX11_step_7 : decode cX11_step 7 = .ok (.goto 4, 3) := by decide +kernel
theorem dX11_step_10 : decode cX11_step 10 = .ok (.iconst 0, 1) := by decide +kernel
theorem dX11_step_11 : decode cX11_step 11 = .ok (.invokevirtual 151, 3) := by decide +kernel
theorem dX11_step_14 : decode cX11_step 14 = .ok (.istore_n 3, 1) := by decide +kernel
theorem dX11_step_15 : decode cX11_step 15 = .ok (.iload_n 3, 1) := by decide +kernel
theorem dX11_step_16 : decode cX11_step 16 = .ok (.bipush (-7), 2) := by decide +kernel
theorem dX11_step_18 : decode cX11_step 18 = .ok (.if_icmp .ne 8, 3) := by decide +kernel
theorem dX11_step_21 : decode cX11_step 21 = .ok (.bipush (-7), 2) := by decide +kernel
theorem dX11_step_23 : decode cX11_step 23 = .ok (.goto 17, 3) := by decide +kernel
theorem dX11_step_26 : decode cX11_step 26 = .ok (.aload_n 0, 1) := by decide +kernel
theorem dX11_step_27 : decode cX11_step 27 = .ok (.iload_n 3, 1) := by decide +kernel
theorem dX11_step_28 : decode cX11_step 28 = .ok (.iload_n 2, 1) := by decide +kernel
theorem dX11_step_29 : decode cX11_step 29 = .ok (.ifCond .eq 7, 3) := by decide +kernel
theorem dX11_step_32 : decode cX11_step 32 = .ok (.iconst 0, 1) := by decide +kernel
theorem dX11_step_33 : decode cX11_step 33 = .ok (.goto 4, 3) := by decide +kernel
theorem dX11_step_36 : decode cX11_step 36 = .ok (.iconst 1, 1) := by decide +kernel
theorem dX11_step_37 : decode cX11_step 37 = .ok (.invokevirtual 151, 3) := by decide +kernel
theorem dX11_step_40 : decode cX11_step 40 = .ok (.ireturn, 1) := by decide +kernel
theorem dX11_behind_0 : decode cX11_behind 0 = .ok (.iload_n 1, 1) := by decide +kernel
theorem dX11_behind_1 : decode cX11_behind 1 = .ok (.iload_n 2, 1) := by decide +kernel
theorem dX11_behind_2 : decode cX11_behind 2 = .ok (.invokestatic 123, 3) := by decide +kernel
theorem dX11_behind_5 : decode cX11_behind 5 = .ok (.ifCond .ne 5, 3) := by decide +kernel
theorem dX11_behind_8 : decode cX11_behind 8 = .ok (.iconst (-1), 1) := by decide +kernel
theorem dX11_behind_9 : decode cX11_behind 9 = .ok (.ireturn, 1) := by decide +kernel
theorem dX11_behind_10 : decode cX11_behind 10 = .ok (.iload_n 3, 1) := by decide +kernel
theorem dX11_behind_11 : decode cX11_behind 11 = .ok (.i2l, 1) := by decide +kernel
theorem dX11_behind_12 : decode cX11_behind 12 = .ok (.ldc2_w 154, 3) := by decide +kernel
theorem dX11_behind_15 : decode cX11_behind 15 = .ok (.ldc2_w 156, 3) := by decide +kernel
theorem dX11_behind_18 : decode cX11_behind 18 = .ok (.invokestatic 99, 3) := by decide +kernel
theorem dX11_behind_21 : decode cX11_behind 21 = .ok (.ifCond .ne 6, 3) := by decide +kernel
theorem dX11_behind_24 : decode cX11_behind 24 = .ok (.bipush (-2), 2) := by decide +kernel
theorem dX11_behind_26 : decode cX11_behind 26 = .ok (.ireturn, 1) := by decide +kernel
theorem dX11_behind_27 : decode cX11_behind 27 = .ok (.bipush 32, 2) := by decide +kernel
theorem dX11_behind_29 : decode cX11_behind 29 = .ok (.iload_n 1, 1) := by decide +kernel
theorem dX11_behind_30 : decode cX11_behind 30 = .ok (.imul, 1) := by decide +kernel
theorem dX11_behind_31 : decode cX11_behind 31 = .ok (.iload_n 2, 1) := by decide +kernel
theorem dX11_behind_32 : decode cX11_behind 32 = .ok (.iadd, 1) := by decide +kernel
theorem dX11_behind_33 : decode cX11_behind 33 = .ok (.istore 4, 2) := by decide +kernel
theorem dX11_behind_35 : decode cX11_behind 35 = .ok (.iload_n 3, 1) := by decide +kernel
theorem dX11_behind_36 : decode cX11_behind 36 = .ok (.ifCond .ge 8, 3) := by decide +kernel
theorem dX11_behind_39 : decode cX11_behind 39 = .ok (.iload_n 3, 1) := by decide +kernel
theorem dX11_behind_40 : decode cX11_behind 40 = .ok (.ineg, 1) := by decide +kernel
theorem dX11_behind_41 : decode cX11_behind 41 = .ok (.goto 4, 3) := by decide +kernel
theorem dX11_behind_44 : decode cX11_behind 44 = .ok (.iload_n 3, 1) := by decide +kernel
theorem dX11_behind_45 : decode cX11_behind 45 = .ok (.istore 5, 2) := by decide +kernel
theorem dX11_behind_47 : decode cX11_behind 47 = .ok (.iload 5, 2) := by decide +kernel
theorem dX11_behind_49 : decode cX11_behind 49 = .ok (.ifCond .le 33, 3) := by decide +kernel
theorem dX11_behind_52 : decode cX11_behind 52 = .ok (.iload 4, 2) := by decide +kernel
theorem dX11_behind_54 : decode cX11_behind 54 = .ok (.bipush (-7), 2) := by decide +kernel
theorem dX11_behind_56 : decode cX11_behind 56 = .ok (.if_icmp .eq 26, 3) := by decide +kernel
theorem dX11_behind_59 : decode cX11_behind 59 = .ok (.aload_n 0, 1) := by decide +kernel
theorem dX11_behind_60 : decode cX11_behind 60 = .ok (.iload 4, 2) := by decide +kernel
theorem dX11_behind_62 : decode cX11_behind 62 = .ok (.iload_n 3, 1) := by decide +kernel
theorem dX11_behind_63 : decode cX11_behind 63 = .ok (.ifCond .ge 7, 3) := by decide +kernel
theorem dX11_behind_66 : decode cX11_behind 66 = .ok (.iconst 1, 1) := by decide +kernel
theorem dX11_behind_67 : decode cX11_behind 67 = .ok (.goto 4, 3) := by decide +kernel
theorem dX11_behind_70 : decode cX11_behind 70 = .ok (.iconst 0, 1) := by decide +kernel
theorem dX11_behind_71 : decode cX11_behind 71 = .ok (.invokevirtual 158, 3) := by decide +kernel
theorem dX11_behind_74 : decode cX11_behind 74 = .ok (.istore 4, 2) := by decide +kernel
theorem dX11_behind_76 : decode cX11_behind 76 = .ok (.iinc 5 (-1), 3) := by decide +kernel
theorem dX11_behind_79 : decode cX11_behind 79 = .ok (.goto (-32), 3) := by decide +kernel
theorem dX11_behind_82 : decode cX11_behind 82 = .ok (.iload 4, 2) := by decide +kernel
theorem dX11_behind_84 : decode cX11_behind 84 = .ok (.ireturn, 1) := by decide +kernel
theorem dX11_period_0 : decode cX11_period 0 = .ok (.iload_n 1, 1) := by decide +kernel
theorem dX11_period_1 : decode cX11_period 1 = .ok (.iload_n 2, 1) := by decide +kernel
theorem dX11_period_2 : decode cX11_period 2 = .ok (.invokestatic 123, 3) := by decide +kernel
theorem dX11_period_5 : decode cX11_period 5 = .ok (.ifCond .ne 5, 3) := by decide +kernel
theorem dX11_period_8 : decode cX11_period 8 = .ok (.iconst (-1), 1) := by decide +kernel
theorem dX11_period_9 : decode cX11_period 9 = .ok (.ireturn, 1) := by decide +kernel
theorem dX11_period_10 : decode cX11_period 10 = .ok (.bipush 32, 2) := by decide +kernel
theorem dX11_period_12 : decode cX11_period 12 = .ok (.iload_n 1, 1) := by decide +kernel
theorem dX11_period_13 : decode cX11_period 13 = .ok (.imul, 1) := by decide +kernel
theorem dX11_period_14 : decode cX11_period 14 = .ok (.iload_n 2, 1) := by decide +kernel
theorem dX11_period_15 : decode cX11_period 15 = .ok (.iadd, 1) := by decide +kernel
theorem dX11_period_16 : decode cX11_period 16 = .ok (.istore_n 3, 1) := by decide +kernel
theorem dX11_period_17 : decode cX11_period 17 = .ok (.iconst 1, 1) := by decide +kernel
theorem dX11_period_18 : decode cX11_period 18 = .ok (.istore 4, 2) := by decide +kernel
theorem dX11_period_20 : decode cX11_period 20 = .ok (.iload 4, 2) := by decide +kernel
theorem dX11_period_22 : decode cX11_period 22 = .ok (.sipush 1024, 3) := by decide +kernel
theorem dX11_period_25 : decode cX11_period 25 = .ok (.if_icmp .gt 38, 3) := by decide +kernel
theorem dX11_period_28 : decode cX11_period 28 = .ok (.aload_n 0, 1) := by decide +kernel
theorem dX11_period_29 : decode cX11_period 29 = .ok (.iload_n 3, 1) := by decide +kernel
theorem dX11_period_30 : decode cX11_period 30 = .ok (.iconst 0, 1) := by decide +kernel
theorem dX11_period_31 : decode cX11_period 31 = .ok (.invokevirtual 158, 3) := by decide +kernel
theorem dX11_period_34 : decode cX11_period 34 = .ok (.istore_n 3, 1) := by decide +kernel
theorem dX11_period_35 : decode cX11_period 35 = .ok (.iload_n 3, 1) := by decide +kernel
theorem dX11_period_36 : decode cX11_period 36 = .ok (.bipush (-7), 2) := by decide +kernel
theorem dX11_period_38 : decode cX11_period 38 = .ok (.if_icmp .ne 6, 3) := by decide +kernel
theorem dX11_period_41 : decode cX11_period 41 = .ok (.bipush (-7), 2) := by decide +kernel
theorem dX11_period_43 : decode cX11_period 43 = .ok (.ireturn, 1) := by decide +kernel
theorem dX11_period_44 : decode cX11_period 44 = .ok (.iload_n 3, 1) := by decide +kernel
theorem dX11_period_45 : decode cX11_period 45 = .ok (.bipush 32, 2) := by decide +kernel
theorem dX11_period_47 : decode cX11_period 47 = .ok (.iload_n 1, 1) := by decide +kernel
theorem dX11_period_48 : decode cX11_period 48 = .ok (.imul, 1) := by decide +kernel
theorem dX11_period_49 : decode cX11_period 49 = .ok (.iload_n 2, 1) := by decide +kernel
theorem dX11_period_50 : decode cX11_period 50 = .ok (.iadd, 1) := by decide +kernel
theorem dX11_period_51 : decode cX11_period 51 = .ok (.if_icmp .ne 6, 3) := by decide +kernel
theorem dX11_period_54 : decode cX11_period 54 = .ok (.iload 4, 2) := by decide +kernel
theorem dX11_period_56 : decode cX11_period 56 = .ok (.ireturn, 1) := by decide +kernel
theorem dX11_period_57 : decode cX11_period 57 = .ok (.iinc 4 1, 3) := by decide +kernel
theorem dX11_period_60 : decode cX11_period 60 = .ok (.goto (-40), 3) := by decide +kernel
theorem dX11_period_63 : decode cX11_period 63 = .ok (.bipush (-5), 2) := by decide +kernel
theorem dX11_period_65 : decode cX11_period 65 = .ok (.ireturn, 1) := by decide +kernel
theorem dX11_findsKept_0 : decode cX11_findsKept 0 = .ok (.iconst 0, 1) := by decide +kernel
theorem dX11_findsKept_1 : decode cX11_findsKept 1 = .ok (.istore_n 1, 1) := by decide +kernel
theorem dX11_findsKept_2 : decode cX11_findsKept 2 = .ok (.iload_n 1, 1) := by decide +kernel
theorem dX11_findsKept_3 : decode cX11_findsKept 3 = .ok (.sipush 1024, 3) := by decide +kernel
theorem dX11_findsKept_6 : decode cX11_findsKept 6 = .ok (.if_icmp .ge 27, 3) := by decide +kernel
theorem dX11_findsKept_9 : decode cX11_findsKept 9 = .ok (.aload_n 0, 1) := by decide +kernel
theorem dX11_findsKept_10 : decode cX11_findsKept 10 = .ok (.getfield 18, 3) := by decide +kernel
theorem dX11_findsKept_13 : decode cX11_findsKept 13 = .ok (.iload_n 1, 1) := by decide +kernel
theorem dX11_findsKept_14 : decode cX11_findsKept 14 = .ok (.aload_n 0, 1) := by decide +kernel
theorem dX11_findsKept_15 : decode cX11_findsKept 15 = .ok (.iload_n 1, 1) := by decide +kernel
theorem dX11_findsKept_16 : decode cX11_findsKept 16 = .ok (.bipush 32, 2) := by decide +kernel
theorem dX11_findsKept_18 : decode cX11_findsKept 18 = .ok (.idiv, 1) := by decide +kernel
theorem dX11_findsKept_19 : decode cX11_findsKept 19 = .ok (.iload_n 1, 1) := by decide +kernel
theorem dX11_findsKept_20 : decode cX11_findsKept 20 = .ok (.bipush 32, 2) := by decide +kernel
theorem dX11_findsKept_22 : decode cX11_findsKept 22 = .ok (.irem, 1) := by decide +kernel
theorem dX11_findsKept_23 : decode cX11_findsKept 23 = .ok (.invokevirtual 133, 3) := by decide +kernel
theorem dX11_findsKept_26 : decode cX11_findsKept 26 = .ok (.iastore, 1) := by decide +kernel
theorem dX11_findsKept_27 : decode cX11_findsKept 27 = .ok (.iinc 1 1, 3) := by decide +kernel
theorem dX11_findsKept_30 : decode cX11_findsKept 30 = .ok (.goto (-28), 3) := by decide +kernel
theorem dX11_findsKept_33 : decode cX11_findsKept 33 = .ok (.return_, 1) := by decide +kernel
theorem dX11_nth_0 : decode cX11_nth 0 = .ok (.aload_n 0, 1) := by decide +kernel
theorem dX11_nth_1 : decode cX11_nth 1 = .ok (.invokevirtual 162, 3) := by decide +kernel
theorem dX11_nth_4 : decode cX11_nth 4 = .ok (.iconst 0, 1) := by decide +kernel
theorem dX11_nth_5 : decode cX11_nth 5 = .ok (.istore_n 3, 1) := by decide +kernel
theorem dX11_nth_6 : decode cX11_nth 6 = .ok (.iconst 0, 1) := by decide +kernel
theorem dX11_nth_7 : decode cX11_nth 7 = .ok (.istore 4, 2) := by decide +kernel
theorem dX11_nth_9 : decode cX11_nth 9 = .ok (.iload 4, 2) := by decide +kernel
theorem dX11_nth_11 : decode cX11_nth 11 = .ok (.sipush 1024, 3) := by decide +kernel
theorem dX11_nth_14 : decode cX11_nth 14 = .ok (.if_icmp .ge 31, 3) := by decide +kernel
theorem dX11_nth_17 : decode cX11_nth 17 = .ok (.aload_n 0, 1) := by decide +kernel
theorem dX11_nth_18 : decode cX11_nth 18 = .ok (.getfield 18, 3) := by decide +kernel
theorem dX11_nth_21 : decode cX11_nth 21 = .ok (.iload 4, 2) := by decide +kernel
theorem dX11_nth_23 : decode cX11_nth 23 = .ok (.iaload, 1) := by decide +kernel
theorem dX11_nth_24 : decode cX11_nth 24 = .ok (.iload_n 1, 1) := by decide +kernel
theorem dX11_nth_25 : decode cX11_nth 25 = .ok (.if_icmp .ne 14, 3) := by decide +kernel
theorem dX11_nth_28 : decode cX11_nth 28 = .ok (.iload_n 3, 1) := by decide +kernel
theorem dX11_nth_29 : decode cX11_nth 29 = .ok (.iload_n 2, 1) := by decide +kernel
theorem dX11_nth_30 : decode cX11_nth 30 = .ok (.if_icmp .ne 6, 3) := by decide +kernel
theorem dX11_nth_33 : decode cX11_nth 33 = .ok (.iload 4, 2) := by decide +kernel
theorem dX11_nth_35 : decode cX11_nth 35 = .ok (.ireturn, 1) := by decide +kernel
theorem dX11_nth_36 : decode cX11_nth 36 = .ok (.iinc 3 1, 3) := by decide +kernel
theorem dX11_nth_39 : decode cX11_nth 39 = .ok (.iinc 4 1, 3) := by decide +kernel
theorem dX11_nth_42 : decode cX11_nth 42 = .ok (.goto (-33), 3) := by decide +kernel
theorem dX11_nth_45 : decode cX11_nth 45 = .ok (.iload_n 2, 1) := by decide +kernel
theorem dX11_nth_46 : decode cX11_nth 46 = .ok (.iconst (-1), 1) := by decide +kernel
theorem dX11_nth_47 : decode cX11_nth 47 = .ok (.if_icmp .ne 7, 3) := by decide +kernel
theorem dX11_nth_50 : decode cX11_nth 50 = .ok (.iload_n 3, 1) := by decide +kernel
theorem dX11_nth_51 : decode cX11_nth 51 = .ok (.goto 5, 3) := by decide +kernel
theorem dX11_nth_54 : decode cX11_nth 54 = .ok (.bipush (-5), 2) := by decide +kernel
theorem dX11_nth_56 : decode cX11_nth 56 = .ok (.ireturn, 1) := by decide +kernel
theorem dX11_fibre_0 : decode cX11_fibre 0 = .ok (.iload_n 1, 1) := by decide +kernel
theorem dX11_fibre_1 : decode cX11_fibre 1 = .ok (.invokestatic 103, 3) := by decide +kernel
theorem dX11_fibre_4 : decode cX11_fibre 4 = .ok (.ifCond .eq 12, 3) := by decide +kernel
theorem dX11_fibre_7 : decode cX11_fibre 7 = .ok (.aload_n 0, 1) := by decide +kernel
theorem dX11_fibre_8 : decode cX11_fibre 8 = .ok (.iload_n 1, 1) := by decide +kernel
theorem dX11_fibre_9 : decode cX11_fibre 9 = .ok (.iload_n 2, 1) := by decide +kernel
theorem dX11_fibre_10 : decode cX11_fibre 10 = .ok (.invokevirtual 165, 3) := by decide +kernel
theorem dX11_fibre_13 : decode cX11_fibre 13 = .ok (.goto 4, 3) := by decide +kernel
theorem dX11_fibre_16 : decode cX11_fibre 16 = .ok (.iconst (-1), 1) := by decide +kernel
theorem dX11_fibre_17 : decode cX11_fibre 17 = .ok (.ireturn, 1) := by decide +kernel
theorem dX11_base_0 : decode cX11_base 0 = .ok (.aload_n 0, 1) := by decide +kernel
theorem dX11_base_1 : decode cX11_base 1 = .ok (.bipush (-6), 2) := by decide +kernel
theorem dX11_base_3 : decode cX11_base 3 = .ok (.iload_n 1, 1) := by decide +kernel
theorem dX11_base_4 : decode cX11_base 4 = .ok (.invokevirtual 165, 3) := by decide +kernel
theorem dX11_base_7 : decode cX11_base 7 = .ok (.ireturn, 1) := by decide +kernel
theorem dX11_rank_0 : decode cX11_rank 0 = .ok (.iload_n 1, 1) := by decide +kernel
theorem dX11_rank_1 : decode cX11_rank 1 = .ok (.invokestatic 103, 3) := by decide +kernel
theorem dX11_rank_4 : decode cX11_rank 4 = .ok (.ifCond .ne 5, 3) := by decide +kernel
theorem dX11_rank_7 : decode cX11_rank 7 = .ok (.iconst (-1), 1) := by decide +kernel
theorem dX11_rank_8 : decode cX11_rank 8 = .ok (.ireturn, 1) := by decide +kernel
theorem dX11_rank_9 : decode cX11_rank 9 = .ok (.aload_n 0, 1) := by decide +kernel
theorem dX11_rank_10 : decode cX11_rank 10 = .ok (.invokevirtual 162, 3) := by decide +kernel
theorem dX11_rank_13 : decode cX11_rank 13 = .ok (.iconst 0, 1) := by decide +kernel
theorem dX11_rank_14 : decode cX11_rank 14 = .ok (.istore_n 2, 1) := by decide +kernel
theorem dX11_rank_15 : decode cX11_rank 15 = .ok (.iload_n 2, 1) := by decide +kernel
theorem dX11_rank_16 : decode cX11_rank 16 = .ok (.bipush 31, 2) := by decide +kernel
theorem dX11_rank_18 : decode cX11_rank 18 = .ok (.if_icmp .gt 16, 3) := by decide +kernel
theorem dX11_rank_21 : decode cX11_rank 21 = .ok (.aload_n 0, 1) := by decide +kernel
theorem dX11_rank_22 : decode cX11_rank 22 = .ok (.getfield 21, 3) := by decide +kernel
theorem dX11_rank_25 : decode cX11_rank 25 = .ok (.iload_n 2, 1) := by decide +kernel
theorem dX11_rank_26 : decode cX11_rank 26 = .ok (.iconst 0, 1) := by decide +kernel
theorem dX11_rank_27 : decode cX11_rank 27 = .ok (.iastore, 1) := by decide +kernel
theorem dX11_rank_28 : decode cX11_rank 28 = .ok (.iinc 2 1, 3) := by decide +kernel
theorem dX11_rank_31 : decode cX11_rank 31 = .ok (.goto (-16), 3) := by decide +kernel
theorem dX11_rank_34 : decode cX11_rank 34 = .ok (.iconst 0, 1) := by decide +kernel
theorem dX11_rank_35 : decode cX11_rank 35 = .ok (.istore_n 2, 1) := by decide +kernel
theorem dX11_rank_36 : decode cX11_rank 36 = .ok (.iload_n 2, 1) := by decide +kernel
theorem dX11_rank_37 : decode cX11_rank 37 = .ok (.sipush 1024, 3) := by decide +kernel
theorem dX11_rank_40 : decode cX11_rank 40 = .ok (.if_icmp .ge 35, 3) := by decide +kernel
theorem dX11_rank_43 : decode cX11_rank 43 = .ok (.aload_n 0, 1) := by decide +kernel
theorem dX11_rank_44 : decode cX11_rank 44 = .ok (.getfield 18, 3) := by decide +kernel
theorem dX11_rank_47 : decode cX11_rank 47 = .ok (.iload_n 2, 1) := by decide +kernel
theorem dX11_rank_48 : decode cX11_rank 48 = .ok (.iaload, 1) := by decide +kernel
theorem dX11_rank_49 : decode cX11_rank 49 = .ok (.bipush (-6), 2) := by decide +kernel
theorem dX11_rank_51 : decode cX11_rank 51 = .ok (.if_icmp .eq 18, 3) := by decide +kernel
theorem dX11_rank_54 : decode cX11_rank 54 = .ok (.aload_n 0, 1) := by decide +kernel
theorem dX11_rank_55 : decode cX11_rank 55 = .ok (.getfield 21, 3) := by decide +kernel
theorem dX11_rank_58 : decode cX11_rank 58 = .ok (.aload_n 0, 1) := by decide +kernel
theorem dX11_rank_59 : decode cX11_rank 59 = .ok (.getfield 18, 3) := by decide +kernel
theorem dX11_rank_62 : decode cX11_rank 62 = .ok (.iload_n 2, 1) := by decide +kernel
theorem dX11_rank_63 : decode cX11_rank 63 = .ok (.iaload, 1) := by decide +kernel
theorem dX11_rank_64 : decode cX11_rank 64 = .ok (.dup2, 1) := by decide +kernel
theorem dX11_rank_65 : decode cX11_rank 65 = .ok (.iaload, 1) := by decide +kernel
theorem dX11_rank_66 : decode cX11_rank 66 = .ok (.iconst 1, 1) := by decide +kernel
theorem dX11_rank_67 : decode cX11_rank 67 = .ok (.iadd, 1) := by decide +kernel
theorem dX11_rank_68 : decode cX11_rank 68 = .ok (.iastore, 1) := by decide +kernel
theorem dX11_rank_69 : decode cX11_rank 69 = .ok (.iinc 2 1, 3) := by decide +kernel
theorem dX11_rank_72 : decode cX11_rank 72 = .ok (.goto (-36), 3) := by decide +kernel
theorem dX11_rank_75 : decode cX11_rank 75 = .ok (.iconst 0, 1) := by decide +kernel
theorem dX11_rank_76 : decode cX11_rank 76 = .ok (.istore_n 2, 1) := by decide +kernel
theorem dX11_rank_77 : decode cX11_rank 77 = .ok (.iload_n 2, 1) := by decide +kernel
theorem dX11_rank_78 : decode cX11_rank 78 = .ok (.bipush 31, 2) := by decide +kernel
theorem dX11_rank_80 : decode cX11_rank 80 = .ok (.if_icmp .gt 80, 3) := by decide +kernel
theorem dX11_rank_83 : decode cX11_rank 83 = .ok (.iconst 0, 1) := by decide +kernel
theorem dX11_rank_84 : decode cX11_rank 84 = .ok (.istore_n 3, 1) := by decide +kernel
theorem dX11_rank_85 : decode cX11_rank 85 = .ok (.iconst 0, 1) := by decide +kernel
theorem dX11_rank_86 : decode cX11_rank 86 = .ok (.istore 4, 2) := by decide +kernel
theorem dX11_rank_88 : decode cX11_rank 88 = .ok (.iload 4, 2) := by decide +kernel
theorem dX11_rank_90 : decode cX11_rank 90 = .ok (.bipush 31, 2) := by decide +kernel
theorem dX11_rank_92 : decode cX11_rank 92 = .ok (.if_icmp .gt 55, 3) := by decide +kernel
theorem dX11_rank_95 : decode cX11_rank 95 = .ok (.iload_n 3, 1) := by decide +kernel
theorem dX11_rank_96 : decode cX11_rank 96 = .ok (.aload_n 0, 1) := by decide +kernel
theorem dX11_rank_97 : decode cX11_rank 97 = .ok (.getfield 21, 3) := by decide +kernel
theorem dX11_rank_100 : decode cX11_rank 100 = .ok (.iload 4, 2) := by decide +kernel
theorem dX11_rank_102 : decode cX11_rank 102 = .ok (.iaload, 1) := by decide +kernel
theorem dX11_rank_103 : decode cX11_rank 103 = .ok (.aload_n 0, 1) := by decide +kernel
theorem dX11_rank_104 : decode cX11_rank 104 = .ok (.getfield 21, 3) := by decide +kernel
theorem dX11_rank_107 : decode cX11_rank 107 = .ok (.iload_n 2, 1) := by decide +kernel
theorem dX11_rank_108 : decode cX11_rank 108 = .ok (.iaload, 1) := by decide +kernel
theorem dX11_rank_109 : decode cX11_rank 109 = .ok (.if_icmp .gt 25, 3) := by decide +kernel
theorem dX11_rank_112 : decode cX11_rank 112 = .ok (.aload_n 0, 1) := by decide +kernel
theorem dX11_rank_113 : decode cX11_rank 113 = .ok (.getfield 21, 3) := by decide +kernel
theorem dX11_rank_116 : decode cX11_rank 116 = .ok (.iload 4, 2) := by decide +kernel
theorem dX11_rank_118 : decode cX11_rank 118 = .ok (.iaload, 1) := by decide +kernel
theorem dX11_rank_119 : decode cX11_rank 119 = .ok (.aload_n 0, 1) := by decide +kernel
theorem dX11_rank_120 : decode cX11_rank 120 = .ok (.getfield 21, 3) := by decide +kernel
theorem dX11_rank_123 : decode cX11_rank 123 = .ok (.iload_n 2, 1) := by decide +kernel
theorem dX11_rank_124 : decode cX11_rank 124 = .ok (.iaload, 1) := by decide +kernel
theorem dX11_rank_125 : decode cX11_rank 125 = .ok (.if_icmp .ne 13, 3) := by decide +kernel
theorem dX11_rank_128 : decode cX11_rank 128 = .ok (.iload 4, 2) := by decide +kernel
theorem dX11_rank_130 : decode cX11_rank 130 = .ok (.iload_n 2, 1) := by decide +kernel
theorem dX11_rank_131 : decode cX11_rank 131 = .ok (.if_icmp .ge 7, 3) := by decide +kernel
theorem dX11_rank_134 : decode cX11_rank 134 = .ok (.iconst 1, 1) := by decide +kernel
theorem dX11_rank_135 : decode cX11_rank 135 = .ok (.goto 4, 3) := by decide +kernel
theorem dX11_rank_138 : decode cX11_rank 138 = .ok (.iconst 0, 1) := by decide +kernel
theorem dX11_rank_139 : decode cX11_rank 139 = .ok (.iadd, 1) := by decide +kernel
theorem dX11_rank_140 : decode cX11_rank 140 = .ok (.istore_n 3, 1) := by decide +kernel
theorem dX11_rank_141 : decode cX11_rank 141 = .ok (.iinc 4 1, 3) := by decide +kernel
theorem dX11_rank_144 : decode cX11_rank 144 = .ok (.goto (-56), 3) := by decide +kernel
theorem dX11_rank_147 : decode cX11_rank 147 = .ok (.iload_n 3, 1) := by decide +kernel
theorem dX11_rank_148 : decode cX11_rank 148 = .ok (.iload_n 1, 1) := by decide +kernel
theorem dX11_rank_149 : decode cX11_rank 149 = .ok (.if_icmp .ne 5, 3) := by decide +kernel
theorem dX11_rank_152 : decode cX11_rank 152 = .ok (.iload_n 2, 1) := by decide +kernel
theorem dX11_rank_153 : decode cX11_rank 153 = .ok (.ireturn, 1) := by decide +kernel
theorem dX11_rank_154 : decode cX11_rank 154 = .ok (.iinc 2 1, 3) := by decide +kernel
theorem dX11_rank_157 : decode cX11_rank 157 = .ok (.goto (-80), 3) := by decide +kernel
theorem dX11_rank_160 : decode cX11_rank 160 = .ok (.iconst (-1), 1) := by decide +kernel
theorem dX11_rank_161 : decode cX11_rank 161 = .ok (.ireturn, 1) := by decide +kernel
theorem dX11_lengthOf_0 : decode cX11_lengthOf 0 = .ok (.aload_n 0, 1) := by decide +kernel
theorem dX11_lengthOf_1 : decode cX11_lengthOf 1 = .ok (.getfield 24, 3) := by decide +kernel
theorem dX11_lengthOf_4 : decode cX11_lengthOf 4 = .ok (.iload_n 1, 1) := by decide +kernel
theorem dX11_lengthOf_5 : decode cX11_lengthOf 5 = .ok (.iaload, 1) := by decide +kernel
theorem dX11_lengthOf_6 : decode cX11_lengthOf 6 = .ok (.istore_n 2, 1) := by decide +kernel
theorem dX11_lengthOf_7 : decode cX11_lengthOf 7 = .ok (.iconst 1, 1) := by decide +kernel
theorem dX11_lengthOf_8 : decode cX11_lengthOf 8 = .ok (.istore_n 3, 1) := by decide +kernel
theorem dX11_lengthOf_9 : decode cX11_lengthOf 9 = .ok (.iload_n 2, 1) := by decide +kernel
theorem dX11_lengthOf_10 : decode cX11_lengthOf 10 = .ok (.ifCond .lt 28, 3) := by decide +kernel
theorem dX11_lengthOf_13 : decode cX11_lengthOf 13 = .ok (.iload_n 2, 1) := by decide +kernel
theorem dX11_lengthOf_14 : decode cX11_lengthOf 14 = .ok (.iload_n 1, 1) := by decide +kernel
theorem dX11_lengthOf_15 : decode cX11_lengthOf 15 = .ok (.if_icmp .eq 23, 3) := by decide +kernel
theorem dX11_lengthOf_18 : decode cX11_lengthOf 18 = .ok (.iload_n 3, 1) := by decide +kernel
theorem dX11_lengthOf_19 : decode cX11_lengthOf 19 = .ok (.sipush 1024, 3) := by decide +kernel
theorem dX11_lengthOf_22 : decode cX11_lengthOf 22 = .ok (.if_icmp .gt 16, 3) := by decide +kernel
theorem dX11_lengthOf_25 : decode cX11_lengthOf 25 = .ok (.aload_n 0, 1) := by decide +kernel
theorem dX11_lengthOf_26 : decode cX11_lengthOf 26 = .ok (.getfield 24, 3) := by decide +kernel
theorem dX11_lengthOf_29 : decode cX11_lengthOf 29 = .ok (.iload_n 2, 1) := by decide +kernel
theorem dX11_lengthOf_30 : decode cX11_lengthOf 30 = .ok (.iaload, 1) := by decide +kernel
theorem dX11_lengthOf_31 : decode cX11_lengthOf 31 = .ok (.istore_n 2, 1) := by decide +kernel
theorem dX11_lengthOf_32 : decode cX11_lengthOf 32 = .ok (.iinc 3 1, 3) := by decide +kernel
theorem dX11_lengthOf_35 : decode cX11_lengthOf 35 = .ok (.goto (-26), 3) := by decide +kernel
theorem dX11_lengthOf_38 : decode cX11_lengthOf 38 = .ok (.iload_n 2, 1) := by decide +kernel
theorem dX11_lengthOf_39 : decode cX11_lengthOf 39 = .ok (.iload_n 1, 1) := by decide +kernel
theorem dX11_lengthOf_40 : decode cX11_lengthOf 40 = .ok (.if_icmp .ne 14, 3) := by decide +kernel
theorem dX11_lengthOf_43 : decode cX11_lengthOf 43 = .ok (.iload_n 3, 1) := by decide +kernel
theorem dX11_lengthOf_44 : decode cX11_lengthOf 44 = .ok (.sipush 1024, 3) := by decide +kernel
theorem dX11_lengthOf_47 : decode cX11_lengthOf 47 = .ok (.if_icmp .gt 7, 3) := by decide +kernel
theorem dX11_lengthOf_50 : decode cX11_lengthOf 50 = .ok (.iload_n 3, 1) := by decide +kernel
theorem dX11_lengthOf_51 : decode cX11_lengthOf 51 = .ok (.goto 4, 3) := by decide +kernel
theorem dX11_lengthOf_54 : decode cX11_lengthOf 54 = .ok (.iconst 0, 1) := by decide +kernel
theorem dX11_lengthOf_55 : decode cX11_lengthOf 55 = .ok (.ireturn, 1) := by decide +kernel
theorem dX11_findsCycles_0 : decode cX11_findsCycles 0 = .ok (.aload_n 0, 1) := by decide +kernel
theorem dX11_findsCycles_1 : decode cX11_findsCycles 1 = .ok (.invokevirtual 162, 3) := by decide +kernel
theorem dX11_findsCycles_4 : decode cX11_findsCycles 4 = .ok (.iconst 0, 1) := by decide +kernel
theorem dX11_findsCycles_5 : decode cX11_findsCycles 5 = .ok (.istore_n 2, 1) := by decide +kernel
theorem dX11_findsCycles_6 : decode cX11_findsCycles 6 = .ok (.iload_n 2, 1) := by decide +kernel
theorem dX11_findsCycles_7 : decode cX11_findsCycles 7 = .ok (.sipush 1024, 3) := by decide +kernel
theorem dX11_findsCycles_10 : decode cX11_findsCycles 10 = .ok (.if_icmp .ge 37, 3) := by decide +kernel
theorem dX11_findsCycles_13 : decode cX11_findsCycles 13 = .ok (.aload_n 0, 1) := by decide +kernel
theorem dX11_findsCycles_14 : decode cX11_findsCycles 14 = .ok (.getfield 24, 3) := by decide +kernel
theorem dX11_findsCycles_17 : decode cX11_findsCycles 17 = .ok (.iload_n 2, 1) := by decide +kernel
theorem dX11_findsCycles_18 : decode cX11_findsCycles 18 = .ok (.aload_n 0, 1) := by decide +kernel
theorem dX11_findsCycles_19 : decode cX11_findsCycles 19 = .ok (.iload_n 2, 1) := by decide +kernel
theorem dX11_findsCycles_20 : decode cX11_findsCycles 20 = .ok (.iconst 0, 1) := by decide +kernel
theorem dX11_findsCycles_21 : decode cX11_findsCycles 21 = .ok (.invokevirtual 158, 3) := by decide +kernel
theorem dX11_findsCycles_24 : decode cX11_findsCycles 24 = .ok (.iastore, 1) := by decide +kernel
theorem dX11_findsCycles_25 : decode cX11_findsCycles 25 = .ok (.aload_n 0, 1) := by decide +kernel
theorem dX11_findsCycles_26 : decode cX11_findsCycles 26 = .ok (.getfield 27, 3) := by decide +kernel
theorem dX11_findsCycles_29 : decode cX11_findsCycles 29 = .ok (.iload_n 2, 1) := by decide +kernel
theorem dX11_findsCycles_30 : decode cX11_findsCycles 30 = .ok (.iconst 0, 1) := by decide +kernel
theorem dX11_findsCycles_31 : decode cX11_findsCycles 31 = .ok (.bastore, 1) := by decide +kernel
theorem dX11_findsCycles_32 : decode cX11_findsCycles 32 = .ok (.aload_n 0, 1) := by decide +kernel
theorem dX11_findsCycles_33 : decode cX11_findsCycles 33 = .ok (.getfield 31, 3) := by decide +kernel
theorem dX11_findsCycles_36 : decode cX11_findsCycles 36 = .ok (.iload_n 2, 1) := by decide +kernel
theorem dX11_findsCycles_37 : decode cX11_findsCycles 37 = .ok (.iconst 1, 1) := by decide +kernel
theorem dX11_findsCycles_38 : decode cX11_findsCycles 38 = .ok (.iadd, 1) := by decide +kernel
theorem dX11_findsCycles_39 : decode cX11_findsCycles 39 = .ok (.iconst 0, 1) := by decide +kernel
theorem dX11_findsCycles_40 : decode cX11_findsCycles 40 = .ok (.iastore, 1) := by decide +kernel
theorem dX11_findsCycles_41 : decode cX11_findsCycles 41 = .ok (.iinc 2 1, 3) := by decide +kernel
theorem dX11_findsCycles_44 : decode cX11_findsCycles 44 = .ok (.goto (-38), 3) := by decide +kernel
theorem dX11_findsCycles_47 : decode cX11_findsCycles 47 = .ok (.iconst 0, 1) := by decide +kernel
theorem dX11_findsCycles_48 : decode cX11_findsCycles 48 = .ok (.istore_n 2, 1) := by decide +kernel
theorem dX11_findsCycles_49 : decode cX11_findsCycles 49 = .ok (.iload_n 2, 1) := by decide +kernel
theorem dX11_findsCycles_50 : decode cX11_findsCycles 50 = .ok (.sipush 1024, 3) := by decide +kernel
theorem dX11_findsCycles_53 : decode cX11_findsCycles 53 = .ok (.if_icmp .ge 87, 3) := by decide +kernel
theorem dX11_findsCycles_56 : decode cX11_findsCycles 56 = .ok (.aload_n 0, 1) := by decide +kernel
theorem dX11_findsCycles_57 : decode cX11_findsCycles 57 = .ok (.getfield 18, 3) := by decide +kernel
theorem dX11_findsCycles_60 : decode cX11_findsCycles 60 = .ok (.iload_n 2, 1) := by decide +kernel
theorem dX11_findsCycles_61 : decode cX11_findsCycles 61 = .ok (.iaload, 1) := by decide +kernel
theorem dX11_findsCycles_62 : decode cX11_findsCycles 62 = .ok (.iload_n 1, 1) := by decide +kernel
theorem dX11_findsCycles_63 : decode cX11_findsCycles 63 = .ok (.if_icmp .ne 20, 3) := by decide +kernel
theorem dX11_findsCycles_66 : decode cX11_findsCycles 66 = .ok (.aload_n 0, 1) := by decide +kernel
theorem dX11_findsCycles_67 : decode cX11_findsCycles 67 = .ok (.getfield 27, 3) := by decide +kernel
theorem dX11_findsCycles_70 : decode cX11_findsCycles 70 = .ok (.iload_n 2, 1) := by decide +kernel
theorem dX11_findsCycles_71 : decode cX11_findsCycles 71 = .ok (.baload, 1) := by decide +kernel
theorem dX11_findsCycles_72 : decode cX11_findsCycles 72 = .ok (.ifCond .ne 11, 3) := by decide +kernel
theorem dX11_findsCycles_75 : decode cX11_findsCycles 75 = .ok (.aload_n 0, 1) := by decide +kernel
theorem dX11_findsCycles_76 : decode cX11_findsCycles 76 = .ok (.iload_n 2, 1) := by decide +kernel
theorem dX11_findsCycles_77 : decode cX11_findsCycles 77 = .ok (.invokevirtual 168, 3) := by decide +kernel
theorem dX11_findsCycles_80 : decode cX11_findsCycles 80 = .ok (.goto 4, 3) := by decide +kernel
theorem dX11_findsCycles_83 : decode cX11_findsCycles 83 = .ok (.iconst 0, 1) := by decide +kernel
theorem dX11_findsCycles_84 : decode cX11_findsCycles 84 = .ok (.istore_n 3, 1) := by decide +kernel
theorem dX11_findsCycles_85 : decode cX11_findsCycles 85 = .ok (.iload_n 3, 1) := by decide +kernel
theorem dX11_findsCycles_86 : decode cX11_findsCycles 86 = .ok (.ifCond .le 48, 3) := by decide +kernel
theorem dX11_findsCycles_89 : decode cX11_findsCycles 89 = .ok (.aload_n 0, 1) := by decide +kernel
theorem dX11_findsCycles_90 : decode cX11_findsCycles 90 = .ok (.getfield 31, 3) := by decide +kernel
theorem dX11_findsCycles_93 : decode cX11_findsCycles 93 = .ok (.iload_n 3, 1) := by decide +kernel
theorem dX11_findsCycles_94 : decode cX11_findsCycles 94 = .ok (.dup2, 1) := by decide +kernel
theorem dX11_findsCycles_95 : decode cX11_findsCycles 95 = .ok (.iaload, 1) := by decide +kernel
theorem dX11_findsCycles_96 : decode cX11_findsCycles 96 = .ok (.iconst 1, 1) := by decide +kernel
theorem dX11_findsCycles_97 : decode cX11_findsCycles 97 = .ok (.iadd, 1) := by decide +kernel
theorem dX11_findsCycles_98 : decode cX11_findsCycles 98 = .ok (.iastore, 1) := by decide +kernel
theorem dX11_findsCycles_99 : decode cX11_findsCycles 99 = .ok (.iload_n 2, 1) := by decide +kernel
theorem dX11_findsCycles_100 : decode cX11_findsCycles 100 = .ok (.istore 4, 2) := by decide +kernel
theorem dX11_findsCycles_102 : decode cX11_findsCycles 102 = .ok (.iconst 0, 1) := by decide +kernel
theorem dX11_findsCycles_103 : decode cX11_findsCycles 103 = .ok (.istore 5, 2) := by decide +kernel
theorem dX11_findsCycles_105 : decode cX11_findsCycles 105 = .ok (.iload 5, 2) := by decide +kernel
theorem dX11_findsCycles_107 : decode cX11_findsCycles 107 = .ok (.iload_n 3, 1) := by decide +kernel
theorem dX11_findsCycles_108 : decode cX11_findsCycles 108 = .ok (.if_icmp .ge 26, 3) := by decide +kernel
theorem dX11_findsCycles_111 : decode cX11_findsCycles 111 = .ok (.aload_n 0, 1) := by decide +kernel
theorem dX11_findsCycles_112 : decode cX11_findsCycles 112 = .ok (.getfield 27, 3) := by decide +kernel
theorem dX11_findsCycles_115 : decode cX11_findsCycles 115 = .ok (.iload 4, 2) := by decide +kernel
theorem dX11_findsCycles_117 : decode cX11_findsCycles 117 = .ok (.iconst 1, 1) := by decide +kernel
theorem dX11_findsCycles_118 : decode cX11_findsCycles 118 = .ok (.bastore, 1) := by decide +kernel
theorem dX11_findsCycles_119 : decode cX11_findsCycles 119 = .ok (.aload_n 0, 1) := by decide +kernel
theorem dX11_findsCycles_120 : decode cX11_findsCycles 120 = .ok (.getfield 24, 3) := by decide +kernel
theorem dX11_findsCycles_123 : decode cX11_findsCycles 123 = .ok (.iload 4, 2) := by decide +kernel
theorem dX11_findsCycles_125 : decode cX11_findsCycles 125 = .ok (.iaload, 1) := by decide +kernel
theorem dX11_findsCycles_126 : decode cX11_findsCycles 126 = .ok (.istore 4, 2) := by decide +kernel
theorem dX11_findsCycles_128 : decode cX11_findsCycles 128 = .ok (.iinc 5 1, 3) := by decide +kernel
theorem dX11_findsCycles_131 : decode cX11_findsCycles 131 = .ok (.goto (-26), 3) := by decide +kernel
theorem dX11_findsCycles_134 : decode cX11_findsCycles 134 = .ok (.iinc 2 1, 3) := by decide +kernel
theorem dX11_findsCycles_137 : decode cX11_findsCycles 137 = .ok (.goto (-88), 3) := by decide +kernel
theorem dX11_findsCycles_140 : decode cX11_findsCycles 140 = .ok (.return_, 1) := by decide +kernel
theorem dX11_cycles_0 : decode cX11_cycles 0 = .ok (.iload_n 1, 1) := by decide +kernel
theorem dX11_cycles_1 : decode cX11_cycles 1 = .ok (.invokestatic 103, 3) := by decide +kernel
theorem dX11_cycles_4 : decode cX11_cycles 4 = .ok (.ifCond .eq 29, 3) := by decide +kernel
theorem dX11_cycles_7 : decode cX11_cycles 7 = .ok (.iload_n 2, 1) := by decide +kernel
theorem dX11_cycles_8 : decode cX11_cycles 8 = .ok (.i2l, 1) := by decide +kernel
theorem dX11_cycles_9 : decode cX11_cycles 9 = .ok (.lconst 0, 1) := by decide +kernel
theorem dX11_cycles_10 : decode cX11_cycles 10 = .ok (.ldc2_w 107, 3) := by decide +kernel
theorem dX11_cycles_13 : decode cX11_cycles 13 = .ok (.invokestatic 99, 3) := by decide +kernel
theorem dX11_cycles_16 : decode cX11_cycles 16 = .ok (.ifCond .ne 19, 3) := by decide +kernel
theorem dX11_cycles_19 : decode cX11_cycles 19 = .ok (.iload_n 2, 1) := by decide +kernel
theorem dX11_cycles_20 : decode cX11_cycles 20 = .ok (.i2l, 1) := by decide +kernel
theorem dX11_cycles_21 : decode cX11_cycles 21 = .ok (.ldc2_w 171, 3) := by decide +kernel
theorem dX11_cycles_24 : decode cX11_cycles 24 = .ok (.ldc2_w 173, 3) := by decide +kernel
theorem dX11_cycles_27 : decode cX11_cycles 27 = .ok (.invokestatic 99, 3) := by decide +kernel
theorem dX11_cycles_30 : decode cX11_cycles 30 = .ok (.ifCond .ne 5, 3) := by decide +kernel
theorem dX11_cycles_33 : decode cX11_cycles 33 = .ok (.iconst (-1), 1) := by decide +kernel
theorem dX11_cycles_34 : decode cX11_cycles 34 = .ok (.ireturn, 1) := by decide +kernel
theorem dX11_cycles_35 : decode cX11_cycles 35 = .ok (.aload_n 0, 1) := by decide +kernel
theorem dX11_cycles_36 : decode cX11_cycles 36 = .ok (.iload_n 1, 1) := by decide +kernel
theorem dX11_cycles_37 : decode cX11_cycles 37 = .ok (.invokevirtual 175, 3) := by decide +kernel
theorem dX11_cycles_40 : decode cX11_cycles 40 = .ok (.iconst 0, 1) := by decide +kernel
theorem dX11_cycles_41 : decode cX11_cycles 41 = .ok (.istore_n 3, 1) := by decide +kernel
theorem dX11_cycles_42 : decode cX11_cycles 42 = .ok (.iconst 0, 1) := by decide +kernel
theorem dX11_cycles_43 : decode cX11_cycles 43 = .ok (.istore 4, 2) := by decide +kernel
theorem dX11_cycles_45 : decode cX11_cycles 45 = .ok (.iconst 0, 1) := by decide +kernel
theorem dX11_cycles_46 : decode cX11_cycles 46 = .ok (.istore 5, 2) := by decide +kernel
theorem dX11_cycles_48 : decode cX11_cycles 48 = .ok (.bipush (-5), 2) := by decide +kernel
theorem dX11_cycles_50 : decode cX11_cycles 50 = .ok (.istore 6, 2) := by decide +kernel
theorem dX11_cycles_52 : decode cX11_cycles 52 = .ok (.iload_n 2, 1) := by decide +kernel
theorem dX11_cycles_53 : decode cX11_cycles 53 = .ok (.bipush 10, 2) := by decide +kernel
theorem dX11_cycles_55 : decode cX11_cycles 55 = .ok (.if_icmp .ge 7, 3) := by decide +kernel
theorem dX11_cycles_58 : decode cX11_cycles 58 = .ok (.iconst (-1), 1) := by decide +kernel
theorem dX11_cycles_59 : decode cX11_cycles 59 = .ok (.goto 20, 3) := by decide +kernel
theorem dX11_cycles_62 : decode cX11_cycles 62 = .ok (.iload_n 2, 1) := by decide +kernel
theorem dX11_cycles_63 : decode cX11_cycles 63 = .ok (.bipush 50, 2) := by decide +kernel
theorem dX11_cycles_65 : decode cX11_cycles 65 = .ok (.if_icmp .ge 10, 3) := by decide +kernel
theorem dX11_cycles_68 : decode cX11_cycles 68 = .ok (.iload_n 2, 1) := by decide +kernel
theorem dX11_cycles_69 : decode cX11_cycles 69 = .ok (.bipush 10, 2) := by decide +kernel
theorem dX11_cycles_71 : decode cX11_cycles 71 = .ok (.isub, 1) := by decide +kernel
theorem dX11_cycles_72 : decode cX11_cycles 72 = .ok (.goto 7, 3) := by decide +kernel
theorem dX11_cycles_75 : decode cX11_cycles 75 = .ok (.iload_n 2, 1) := by decide +kernel
theorem dX11_cycles_76 : decode cX11_cycles 76 = .ok (.bipush 50, 2) := by decide +kernel
theorem dX11_cycles_78 : decode cX11_cycles 78 = .ok (.isub, 1) := by decide +kernel
theorem dX11_cycles_79 : decode cX11_cycles 79 = .ok (.istore 7, 2) := by decide +kernel
theorem dX11_cycles_81 : decode cX11_cycles 81 = .ok (.iconst 1, 1) := by decide +kernel
theorem dX11_cycles_82 : decode cX11_cycles 82 = .ok (.istore 8, 2) := by decide +kernel
theorem dX11_cycles_84 : decode cX11_cycles 84 = .ok (.iload 8, 2) := by decide +kernel
theorem dX11_cycles_86 : decode cX11_cycles 86 = .ok (.sipush 1024, 3) := by decide +kernel
theorem dX11_cycles_89 : decode cX11_cycles 89 = .ok (.if_icmp .gt 79, 3) := by decide +kernel
theorem dX11_cycles_92 : decode cX11_cycles 92 = .ok (.aload_n 0, 1) := by decide +kernel
theorem dX11_cycles_93 : decode cX11_cycles 93 = .ok (.getfield 31, 3) := by decide +kernel
theorem dX11_cycles_96 : decode cX11_cycles 96 = .ok (.iload 8, 2) := by decide +kernel
theorem dX11_cycles_98 : decode cX11_cycles 98 = .ok (.iaload, 1) := by decide +kernel
theorem dX11_cycles_99 : decode cX11_cycles 99 = .ok (.ifCond .le 63, 3) := by decide +kernel
theorem dX11_cycles_102 : decode cX11_cycles 102 = .ok (.iload_n 3, 1) := by decide +kernel
theorem dX11_cycles_103 : decode cX11_cycles 103 = .ok (.aload_n 0, 1) := by decide +kernel
theorem dX11_cycles_104 : decode cX11_cycles 104 = .ok (.getfield 31, 3) := by decide +kernel
theorem dX11_cycles_107 : decode cX11_cycles 107 = .ok (.iload 8, 2) := by decide +kernel
theorem dX11_cycles_109 : decode cX11_cycles 109 = .ok (.iaload, 1) := by decide +kernel
theorem dX11_cycles_110 : decode cX11_cycles 110 = .ok (.iadd, 1) := by decide +kernel
theorem dX11_cycles_111 : decode cX11_cycles 111 = .ok (.istore_n 3, 1) := by decide +kernel
theorem dX11_cycles_112 : decode cX11_cycles 112 = .ok (.iload 4, 2) := by decide +kernel
theorem dX11_cycles_114 : decode cX11_cycles 114 = .ok (.iload 8, 2) := by decide +kernel
theorem dX11_cycles_116 : decode cX11_cycles 116 = .ok (.aload_n 0, 1) := by decide +kernel
theorem dX11_cycles_117 : decode cX11_cycles 117 = .ok (.getfield 31, 3) := by decide +kernel
theorem dX11_cycles_120 : decode cX11_cycles 120 = .ok (.iload 8, 2) := by decide +kernel
theorem dX11_cycles_122 : decode cX11_cycles 122 = .ok (.iaload, 1) := by decide +kernel
theorem dX11_cycles_123 : decode cX11_cycles 123 = .ok (.imul, 1) := by decide +kernel
theorem dX11_cycles_124 : decode cX11_cycles 124 = .ok (.iadd, 1) := by decide +kernel
theorem dX11_cycles_125 : decode cX11_cycles 125 = .ok (.istore 4, 2) := by decide +kernel
theorem dX11_cycles_127 : decode cX11_cycles 127 = .ok (.iload 5, 2) := by decide +kernel
theorem dX11_cycles_129 : decode cX11_cycles 129 = .ok (.iload 7, 2) := by decide +kernel
theorem dX11_cycles_131 : decode cX11_cycles 131 = .ok (.if_icmp .ne 24, 3) := by decide +kernel
theorem dX11_cycles_134 : decode cX11_cycles 134 = .ok (.iload_n 2, 1) := by decide +kernel
theorem dX11_cycles_135 : decode cX11_cycles 135 = .ok (.bipush 50, 2) := by decide +kernel
theorem dX11_cycles_137 : decode cX11_cycles 137 = .ok (.if_icmp .ge 8, 3) := by decide +kernel
theorem dX11_cycles_140 : decode cX11_cycles 140 = .ok (.iload 8, 2) := by decide +kernel
theorem dX11_cycles_142 : decode cX11_cycles 142 = .ok (.goto 15, 3) := by decide +kernel
theorem dX11_cycles_145 : decode cX11_cycles 145 = .ok (.aload_n 0, 1) := by decide +kernel
theorem dX11_cycles_146 : decode cX11_cycles 146 = .ok (.getfield 31, 3) := by decide +kernel
theorem dX11_cycles_149 : decode cX11_cycles 149 = .ok (.iload 8, 2) := by decide +kernel
theorem dX11_cycles_151 : decode cX11_cycles 151 = .ok (.iaload, 1) := by decide +kernel
theorem dX11_cycles_152 : decode cX11_cycles 152 = .ok (.goto 5, 3) := by decide +kernel
theorem dX11_cycles_155 : decode cX11_cycles 155 = .ok (.iload 6, 2) := by decide +kernel
theorem dX11_cycles_157 : decode cX11_cycles 157 = .ok (.istore 6, 2) := by decide +kernel
theorem dX11_cycles_159 : decode cX11_cycles 159 = .ok (.iinc 5 1, 3) := by decide +kernel
theorem dX11_cycles_162 : decode cX11_cycles 162 = .ok (.iinc 8 1, 3) := by decide +kernel
theorem dX11_cycles_165 : decode cX11_cycles 165 = .ok (.goto (-81), 3) := by decide +kernel
theorem dX11_cycles_168 : decode cX11_cycles 168 = .ok (.iload_n 2, 1) := by decide +kernel
theorem dX11_cycles_169 : decode cX11_cycles 169 = .ok (.ifCond .ne 7, 3) := by decide +kernel
theorem dX11_cycles_172 : decode cX11_cycles 172 = .ok (.iload_n 3, 1) := by decide +kernel
theorem dX11_cycles_173 : decode cX11_cycles 173 = .ok (.goto 25, 3) := by decide +kernel
theorem dX11_cycles_176 : decode cX11_cycles 176 = .ok (.iload_n 2, 1) := by decide +kernel
theorem dX11_cycles_177 : decode cX11_cycles 177 = .ok (.iconst 1, 1) := by decide +kernel
theorem dX11_cycles_178 : decode cX11_cycles 178 = .ok (.if_icmp .ne 8, 3) := by decide +kernel
theorem dX11_cycles_181 : decode cX11_cycles 181 = .ok (.iload 4, 2) := by decide +kernel
theorem dX11_cycles_183 : decode cX11_cycles 183 = .ok (.goto 15, 3) := by decide +kernel
theorem dX11_cycles_186 : decode cX11_cycles 186 = .ok (.iload_n 2, 1) := by decide +kernel
theorem dX11_cycles_187 : decode cX11_cycles 187 = .ok (.iconst 2, 1) := by decide +kernel
theorem dX11_cycles_188 : decode cX11_cycles 188 = .ok (.if_icmp .ne 8, 3) := by decide +kernel
theorem dX11_cycles_191 : decode cX11_cycles 191 = .ok (.iload 5, 2) := by decide +kernel
theorem dX11_cycles_193 : decode cX11_cycles 193 = .ok (.goto 5, 3) := by decide +kernel
theorem dX11_cycles_196 : decode cX11_cycles 196 = .ok (.iload 6, 2) := by decide +kernel
theorem dX11_cycles_198 : decode cX11_cycles 198 = .ok (.ireturn, 1) := by decide +kernel
theorem dX11_becomes_0 : decode cX11_becomes 0 = .ok (.iconst 0, 1) := by decide +kernel
theorem dX11_becomes_1 : decode cX11_becomes 1 = .ok (.istore_n 2, 1) := by decide +kernel
theorem dX11_becomes_2 : decode cX11_becomes 2 = .ok (.iload_n 2, 1) := by decide +kernel
theorem dX11_becomes_3 : decode cX11_becomes 3 = .ok (.aload_n 1, 1) := by decide +kernel
theorem dX11_becomes_4 : decode cX11_becomes 4 = .ok (.iconst 0, 1) := by decide +kernel
theorem dX11_becomes_5 : decode cX11_becomes 5 = .ok (.iaload, 1) := by decide +kernel
theorem dX11_becomes_6 : decode cX11_becomes 6 = .ok (.iconst 1, 1) := by decide +kernel
theorem dX11_becomes_7 : decode cX11_becomes 7 = .ok (.iadd, 1) := by decide +kernel
theorem dX11_becomes_8 : decode cX11_becomes 8 = .ok (.if_icmp .gt 15, 3) := by decide +kernel
theorem dX11_becomes_11 : decode cX11_becomes 11 = .ok (.aload_n 0, 1) := by decide +kernel
theorem dX11_becomes_12 : decode cX11_becomes 12 = .ok (.iload_n 2, 1) := by decide +kernel
theorem dX11_becomes_13 : decode cX11_becomes 13 = .ok (.aload_n 1, 1) := by decide +kernel
theorem dX11_becomes_14 : decode cX11_becomes 14 = .ok (.iload_n 2, 1) := by decide +kernel
theorem dX11_becomes_15 : decode cX11_becomes 15 = .ok (.iaload, 1) := by decide +kernel
theorem dX11_becomes_16 : decode cX11_becomes 16 = .ok (.iastore, 1) := by decide +kernel
theorem dX11_becomes_17 : decode cX11_becomes 17 = .ok (.iinc 2 1, 3) := by decide +kernel
theorem dX11_becomes_20 : decode cX11_becomes 20 = .ok (.goto (-18), 3) := by decide +kernel
theorem dX11_becomes_23 : decode cX11_becomes 23 = .ok (.return_, 1) := by decide +kernel
theorem dX11_constant_0 : decode cX11_constant 0 = .ok (.aload_n 0, 1) := by decide +kernel
theorem dX11_constant_1 : decode cX11_constant 1 = .ok (.iconst 0, 1) := by decide +kernel
theorem dX11_constant_2 : decode cX11_constant 2 = .ok (.iload_n 1, 1) := by decide +kernel
theorem dX11_constant_3 : decode cX11_constant 3 = .ok (.ifCond .ne 7, 3) := by decide +kernel
theorem dX11_constant_6 : decode cX11_constant 6 = .ok (.iconst (-1), 1) := by decide +kernel
theorem dX11_constant_7 : decode cX11_constant 7 = .ok (.goto 4, 3) := by decide +kernel
theorem dX11_constant_10 : decode cX11_constant 10 = .ok (.iconst 0, 1) := by decide +kernel
theorem dX11_constant_11 : decode cX11_constant 11 = .ok (.iastore, 1) := by decide +kernel
theorem dX11_constant_12 : decode cX11_constant 12 = .ok (.aload_n 0, 1) := by decide +kernel
theorem dX11_constant_13 : decode cX11_constant 13 = .ok (.iconst 1, 1) := by decide +kernel
theorem dX11_constant_14 : decode cX11_constant 14 = .ok (.iload_n 1, 1) := by decide +kernel
theorem dX11_constant_15 : decode cX11_constant 15 = .ok (.iastore, 1) := by decide +kernel
theorem dX11_constant_16 : decode cX11_constant 16 = .ok (.return_, 1) := by decide +kernel
theorem dX11_trims_0 : decode cX11_trims 0 = .ok (.aload_n 0, 1) := by decide +kernel
theorem dX11_trims_1 : decode cX11_trims 1 = .ok (.iconst 0, 1) := by decide +kernel
theorem dX11_trims_2 : decode cX11_trims 2 = .ok (.iload_n 1, 1) := by decide +kernel
theorem dX11_trims_3 : decode cX11_trims 3 = .ok (.iastore, 1) := by decide +kernel
theorem dX11_trims_4 : decode cX11_trims 4 = .ok (.aload_n 0, 1) := by decide +kernel
theorem dX11_trims_5 : decode cX11_trims 5 = .ok (.iconst 0, 1) := by decide +kernel
theorem dX11_trims_6 : decode cX11_trims 6 = .ok (.iaload, 1) := by decide +kernel
theorem dX11_trims_7 : decode cX11_trims 7 = .ok (.ifCond .lt 23, 3) := by decide +kernel
theorem dX11_trims_10 : decode cX11_trims 10 = .ok (.aload_n 0, 1) := by decide +kernel
theorem dX11_trims_11 : decode cX11_trims 11 = .ok (.aload_n 0, 1) := by decide +kernel
theorem dX11_trims_12 : decode cX11_trims 12 = .ok (.iconst 0, 1) := by decide +kernel
theorem dX11_trims_13 : decode cX11_trims 13 = .ok (.iaload, 1) := by decide +kernel
theorem dX11_trims_14 : decode cX11_trims 14 = .ok (.iconst 1, 1) := by decide +kernel
theorem dX11_trims_15 : decode cX11_trims 15 = .ok (.iadd, 1) := by decide +kernel
theorem dX11_trims_16 : decode cX11_trims 16 = .ok (.iaload, 1) := by decide +kernel
theorem dX11_trims_17 : decode cX11_trims 17 = .ok (.ifCond .ne 13, 3) := by decide +kernel
theorem dX11_trims_20 : decode cX11_trims 20 = .ok (.aload_n 0, 1) := by decide +kernel
theorem dX11_trims_21 : decode cX11_trims 21 = .ok (.iconst 0, 1) := by decide +kernel
theorem dX11_trims_22 : decode cX11_trims 22 = .ok (.dup2, 1) := by decide +kernel
theorem dX11_trims_23 : decode cX11_trims 23 = .ok (.iaload, 1) := by decide +kernel
theorem dX11_trims_24 : decode cX11_trims 24 = .ok (.iconst 1, 1) := by decide +kernel
theorem dX11_trims_25 : decode cX11_trims 25 = .ok (.isub, 1) := by decide +kernel
theorem dX11_trims_26 : decode cX11_trims 26 = .ok (.iastore, 1) := by decide +kernel
theorem dX11_trims_27 : decode cX11_trims 27 = .ok (.goto (-23), 3) := by decide +kernel
theorem dX11_trims_30 : decode cX11_trims 30 = .ok (.return_, 1) := by decide +kernel
theorem dX11_sums_0 : decode cX11_sums 0 = .ok (.aload_n 2, 1) := by decide +kernel
theorem dX11_sums_1 : decode cX11_sums 1 = .ok (.iconst 0, 1) := by decide +kernel
theorem dX11_sums_2 : decode cX11_sums 2 = .ok (.iaload, 1) := by decide +kernel
theorem dX11_sums_3 : decode cX11_sums 3 = .ok (.aload 4, 2) := by decide +kernel
theorem dX11_sums_5 : decode cX11_sums 5 = .ok (.iconst 0, 1) := by decide +kernel
theorem dX11_sums_6 : decode cX11_sums 6 = .ok (.iaload, 1) := by decide +kernel
theorem dX11_sums_7 : decode cX11_sums 7 = .ok (.if_icmp .le 9, 3) := by decide +kernel
theorem dX11_sums_10 : decode cX11_sums 10 = .ok (.aload_n 2, 1) := by decide +kernel
theorem dX11_sums_11 : decode cX11_sums 11 = .ok (.iconst 0, 1) := by decide +kernel
theorem dX11_sums_12 : decode cX11_sums 12 = .ok (.iaload, 1) := by decide +kernel
theorem dX11_sums_13 : decode cX11_sums 13 = .ok (.goto 7, 3) := by decide +kernel
theorem dX11_sums_16 : decode cX11_sums 16 = .ok (.aload 4, 2) := by decide +kernel
theorem dX11_sums_18 : decode cX11_sums 18 = .ok (.iconst 0, 1) := by decide +kernel
theorem dX11_sums_19 : decode cX11_sums 19 = .ok (.iaload, 1) := by decide +kernel
theorem dX11_sums_20 : decode cX11_sums 20 = .ok (.istore 5, 2) := by decide +kernel
theorem dX11_sums_22 : decode cX11_sums 22 = .ok (.iconst 0, 1) := by decide +kernel
theorem dX11_sums_23 : decode cX11_sums 23 = .ok (.istore 6, 2) := by decide +kernel
theorem dX11_sums_25 : decode cX11_sums 25 = .ok (.iload 6, 2) := by decide +kernel
theorem dX11_sums_27 : decode cX11_sums 27 = .ok (.iload 5, 2) := by decide +kernel
theorem dX11_sums_29 : decode cX11_sums 29 = .ok (.if_icmp .gt 61, 3) := by decide +kernel
theorem dX11_sums_32 : decode cX11_sums 32 = .ok (.aload_n 0, 1) := by decide +kernel
theorem dX11_sums_33 : decode cX11_sums 33 = .ok (.iload 6, 2) := by decide +kernel
theorem dX11_sums_35 : decode cX11_sums 35 = .ok (.iconst 1, 1) := by decide +kernel
theorem dX11_sums_36 : decode cX11_sums 36 = .ok (.iadd, 1) := by decide +kernel
theorem dX11_sums_37 : decode cX11_sums 37 = .ok (.iload_n 1, 1) := by decide +kernel
theorem dX11_sums_38 : decode cX11_sums 38 = .ok (.iload 6, 2) := by decide +kernel
theorem dX11_sums_40 : decode cX11_sums 40 = .ok (.aload_n 2, 1) := by decide +kernel
theorem dX11_sums_41 : decode cX11_sums 41 = .ok (.iconst 0, 1) := by decide +kernel
theorem dX11_sums_42 : decode cX11_sums 42 = .ok (.iaload, 1) := by decide +kernel
theorem dX11_sums_43 : decode cX11_sums 43 = .ok (.if_icmp .gt 12, 3) := by decide +kernel
theorem dX11_sums_46 : decode cX11_sums 46 = .ok (.aload_n 2, 1) := by decide +kernel
theorem dX11_sums_47 : decode cX11_sums 47 = .ok (.iload 6, 2) := by decide +kernel
theorem dX11_sums_49 : decode cX11_sums 49 = .ok (.iconst 1, 1) := by decide +kernel
theorem dX11_sums_50 : decode cX11_sums 50 = .ok (.iadd, 1) := by decide +kernel
theorem dX11_sums_51 : decode cX11_sums 51 = .ok (.iaload, 1) := by decide +kernel
theorem dX11_sums_52 : decode cX11_sums 52 = .ok (.goto 4, 3) := by decide +kernel
theorem dX11_sums_55 : decode cX11_sums 55 = .ok (.iconst 0, 1) := by decide +kernel
theorem dX11_sums_56 : decode cX11_sums 56 = .ok (.imul, 1) := by decide +kernel
theorem dX11_sums_57 : decode cX11_sums 57 = .ok (.iload_n 3, 1) := by decide +kernel
theorem dX11_sums_58 : decode cX11_sums 58 = .ok (.iload 6, 2) := by decide +kernel
theorem dX11_sums_60 : decode cX11_sums 60 = .ok (.aload 4, 2) := by decide +kernel
theorem dX11_sums_62 : decode cX11_sums 62 = .ok (.iconst 0, 1) := by decide +kernel
theorem dX11_sums_63 : decode cX11_sums 63 = .ok (.iaload, 1) := by decide +kernel
theorem dX11_sums_64 : decode cX11_sums 64 = .ok (.if_icmp .gt 13, 3) := by decide +kernel
theorem dX11_sums_67 : decode cX11_sums 67 = .ok (.aload 4, 2) := by decide +kernel
theorem dX11_sums_69 : decode cX11_sums 69 = .ok (.iload 6, 2) := by decide +kernel
theorem dX11_sums_71 : decode cX11_sums 71 = .ok (.iconst 1, 1) := by decide +kernel
theorem dX11_sums_72 : decode cX11_sums 72 = .ok (.iadd, 1) := by decide +kernel
theorem dX11_sums_73 : decode cX11_sums 73 = .ok (.iaload, 1) := by decide +kernel
theorem dX11_sums_74 : decode cX11_sums 74 = .ok (.goto 4, 3) := by decide +kernel
theorem dX11_sums_77 : decode cX11_sums 77 = .ok (.iconst 0, 1) := by decide +kernel
theorem dX11_sums_78 : decode cX11_sums 78 = .ok (.imul, 1) := by decide +kernel
theorem dX11_sums_79 : decode cX11_sums 79 = .ok (.iadd, 1) := by decide +kernel
theorem dX11_sums_80 : decode cX11_sums 80 = .ok (.invokestatic 140, 3) := by decide +kernel
theorem dX11_sums_83 : decode cX11_sums 83 = .ok (.iastore, 1) := by decide +kernel
theorem dX11_sums_84 : decode cX11_sums 84 = .ok (.iinc 6 1, 3) := by decide +kernel
theorem dX11_sums_87 : decode cX11_sums 87 = .ok (.goto (-62), 3) := by decide +kernel
theorem dX11_sums_90 : decode cX11_sums 90 = .ok (.aload_n 0, 1) := by decide +kernel
theorem dX11_sums_91 : decode cX11_sums 91 = .ok (.iload 5, 2) := by decide +kernel
theorem dX11_sums_93 : decode cX11_sums 93 = .ok (.invokestatic 179, 3) := by decide +kernel
theorem dX11_sums_96 : decode cX11_sums 96 = .ok (.return_, 1) := by decide +kernel
theorem dX11_times_0 : decode cX11_times 0 = .ok (.aload_n 1, 1) := by decide +kernel
theorem dX11_times_1 : decode cX11_times 1 = .ok (.iconst 0, 1) := by decide +kernel
theorem dX11_times_2 : decode cX11_times 2 = .ok (.iaload, 1) := by decide +kernel
theorem dX11_times_3 : decode cX11_times 3 = .ok (.ifCond .lt 9, 3) := by decide +kernel
theorem dX11_times_6 : decode cX11_times 6 = .ok (.aload_n 2, 1) := by decide +kernel
theorem dX11_times_7 : decode cX11_times 7 = .ok (.iconst 0, 1) := by decide +kernel
theorem dX11_times_8 : decode cX11_times 8 = .ok (.iaload, 1) := by decide +kernel
theorem dX11_times_9 : decode cX11_times 9 = .ok (.ifCond .ge 7, 3) := by decide +kernel
theorem dX11_times_12 : decode cX11_times 12 = .ok (.iconst (-1), 1) := by decide +kernel
theorem dX11_times_13 : decode cX11_times 13 = .ok (.goto 10, 3) := by decide +kernel
theorem dX11_times_16 : decode cX11_times 16 = .ok (.aload_n 1, 1) := by decide +kernel
theorem dX11_times_17 : decode cX11_times 17 = .ok (.iconst 0, 1) := by decide +kernel
theorem dX11_times_18 : decode cX11_times 18 = .ok (.iaload, 1) := by decide +kernel
theorem dX11_times_19 : decode cX11_times 19 = .ok (.aload_n 2, 1) := by decide +kernel
theorem dX11_times_20 : decode cX11_times 20 = .ok (.iconst 0, 1) := by decide +kernel
theorem dX11_times_21 : decode cX11_times 21 = .ok (.iaload, 1) := by decide +kernel
theorem dX11_times_22 : decode cX11_times 22 = .ok (.iadd, 1) := by decide +kernel
theorem dX11_times_23 : decode cX11_times 23 = .ok (.istore_n 3, 1) := by decide +kernel
theorem dX11_times_24 : decode cX11_times 24 = .ok (.iconst 0, 1) := by decide +kernel
theorem dX11_times_25 : decode cX11_times 25 = .ok (.istore 4, 2) := by decide +kernel
theorem dX11_times_27 : decode cX11_times 27 = .ok (.iload 4, 2) := by decide +kernel
theorem dX11_times_29 : decode cX11_times 29 = .ok (.iload_n 3, 1) := by decide +kernel
theorem dX11_times_30 : decode cX11_times 30 = .ok (.if_icmp .gt 16, 3) := by decide +kernel
theorem dX11_times_33 : decode cX11_times 33 = .ok (.aload_n 0, 1) := by decide +kernel
theorem dX11_times_34 : decode cX11_times 34 = .ok (.iload 4, 2) := by decide +kernel
theorem dX11_times_36 : decode cX11_times 36 = .ok (.iconst 1, 1) := by decide +kernel
theorem dX11_times_37 : decode cX11_times 37 = .ok (.iadd, 1) := by decide +kernel
theorem dX11_times_38 : decode cX11_times 38 = .ok (.iconst 0, 1) := by decide +kernel
theorem dX11_times_39 : decode cX11_times 39 = .ok (.iastore, 1) := by decide +kernel
theorem dX11_times_40 : decode cX11_times 40 = .ok (.iinc 4 1, 3) := by decide +kernel
theorem dX11_times_43 : decode cX11_times 43 = .ok (.goto (-16), 3) := by decide +kernel
theorem dX11_times_46 : decode cX11_times 46 = .ok (.iconst 0, 1) := by decide +kernel
theorem dX11_times_47 : decode cX11_times 47 = .ok (.istore 4, 2) := by decide +kernel
theorem dX11_times_49 : decode cX11_times 49 = .ok (.iload 4, 2) := by decide +kernel
theorem dX11_times_51 : decode cX11_times 51 = .ok (.aload_n 1, 1) := by decide +kernel
theorem dX11_times_52 : decode cX11_times 52 = .ok (.iconst 0, 1) := by decide +kernel
theorem dX11_times_53 : decode cX11_times 53 = .ok (.iaload, 1) := by decide +kernel
theorem dX11_times_54 : decode cX11_times 54 = .ok (.if_icmp .gt 61, 3) := by decide +kernel
theorem dX11_times_57 : decode cX11_times 57 = .ok (.iconst 0, 1) := by decide +kernel
theorem dX11_times_58 : decode cX11_times 58 = .ok (.istore 5, 2) := by decide +kernel
theorem dX11_times_60 : decode cX11_times 60 = .ok (.iload 5, 2) := by decide +kernel
theorem dX11_times_62 : decode cX11_times 62 = .ok (.aload_n 2, 1) := by decide +kernel
theorem dX11_times_63 : decode cX11_times 63 = .ok (.iconst 0, 1) := by decide +kernel
theorem dX11_times_64 : decode cX11_times 64 = .ok (.iaload, 1) := by decide +kernel
theorem dX11_times_65 : decode cX11_times 65 = .ok (.if_icmp .gt 44, 3) := by decide +kernel
theorem dX11_times_68 : decode cX11_times 68 = .ok (.aload_n 0, 1) := by decide +kernel
theorem dX11_times_69 : decode cX11_times 69 = .ok (.iload 4, 2) := by decide +kernel
theorem dX11_times_71 : decode cX11_times 71 = .ok (.iload 5, 2) := by decide +kernel
theorem dX11_times_73 : decode cX11_times 73 = .ok (.iadd, 1) := by decide +kernel
theorem dX11_times_74 : decode cX11_times 74 = .ok (.iconst 1, 1) := by decide +kernel
theorem dX11_times_75 : decode cX11_times 75 = .ok (.iadd, 1) := by decide +kernel
theorem dX11_times_76 : decode cX11_times 76 = .ok (.aload_n 0, 1) := by decide +kernel
theorem dX11_times_77 : decode cX11_times 77 = .ok (.iload 4, 2) := by decide +kernel
theorem dX11_times_79 : decode cX11_times 79 = .ok (.iload 5, 2) := by decide +kernel
theorem dX11_times_81 : decode cX11_times 81 = .ok (.iadd, 1) := by decide +kernel
theorem dX11_times_82 : decode cX11_times 82 = .ok (.iconst 1, 1) := by decide +kernel
theorem dX11_times_83 : decode cX11_times 83 = .ok (.iadd, 1) := by decide +kernel
theorem dX11_times_84 : decode cX11_times 84 = .ok (.iaload, 1) := by decide +kernel
theorem dX11_times_85 : decode cX11_times 85 = .ok (.aload_n 1, 1) := by decide +kernel
theorem dX11_times_86 : decode cX11_times 86 = .ok (.iload 4, 2) := by decide +kernel
theorem dX11_times_88 : decode cX11_times 88 = .ok (.iconst 1, 1) := by decide +kernel
theorem dX11_times_89 : decode cX11_times 89 = .ok (.iadd, 1) := by decide +kernel
theorem dX11_times_90 : decode cX11_times 90 = .ok (.iaload, 1) := by decide +kernel
theorem dX11_times_91 : decode cX11_times 91 = .ok (.aload_n 2, 1) := by decide +kernel
theorem dX11_times_92 : decode cX11_times 92 = .ok (.iload 5, 2) := by decide +kernel
theorem dX11_times_94 : decode cX11_times 94 = .ok (.iconst 1, 1) := by decide +kernel
theorem dX11_times_95 : decode cX11_times 95 = .ok (.iadd, 1) := by decide +kernel
theorem dX11_times_96 : decode cX11_times 96 = .ok (.iaload, 1) := by decide +kernel
theorem dX11_times_97 : decode cX11_times 97 = .ok (.imul, 1) := by decide +kernel
theorem dX11_times_98 : decode cX11_times 98 = .ok (.iadd, 1) := by decide +kernel
theorem dX11_times_99 : decode cX11_times 99 = .ok (.bipush 31, 2) := by decide +kernel
theorem dX11_times_101 : decode cX11_times 101 = .ok (.irem, 1) := by decide +kernel
theorem dX11_times_102 : decode cX11_times 102 = .ok (.iastore, 1) := by decide +kernel
theorem dX11_times_103 : decode cX11_times 103 = .ok (.iinc 5 1, 3) := by decide +kernel
theorem dX11_times_106 : decode cX11_times 106 = .ok (.goto (-46), 3) := by decide +kernel
theorem dX11_times_109 : decode cX11_times 109 = .ok (.iinc 4 1, 3) := by decide +kernel
theorem dX11_times_112 : decode cX11_times 112 = .ok (.goto (-63), 3) := by decide +kernel
theorem dX11_times_115 : decode cX11_times 115 = .ok (.aload_n 0, 1) := by decide +kernel
theorem dX11_times_116 : decode cX11_times 116 = .ok (.iload_n 3, 1) := by decide +kernel
theorem dX11_times_117 : decode cX11_times 117 = .ok (.invokestatic 179, 3) := by decide +kernel
theorem dX11_times_120 : decode cX11_times 120 = .ok (.return_, 1) := by decide +kernel
theorem dX11_divides_0 : decode cX11_divides 0 = .ok (.aload_n 0, 1) := by decide +kernel
theorem dX11_divides_1 : decode cX11_divides 1 = .ok (.iconst 0, 1) := by decide +kernel
theorem dX11_divides_2 : decode cX11_divides 2 = .ok (.iaload, 1) := by decide +kernel
theorem dX11_divides_3 : decode cX11_divides 3 = .ok (.aload_n 1, 1) := by decide +kernel
theorem dX11_divides_4 : decode cX11_divides 4 = .ok (.iconst 0, 1) := by decide +kernel
theorem dX11_divides_5 : decode cX11_divides 5 = .ok (.iaload, 1) := by decide +kernel
theorem dX11_divides_6 : decode cX11_divides 6 = .ok (.isub, 1) := by decide +kernel
theorem dX11_divides_7 : decode cX11_divides 7 = .ok (.istore_n 3, 1) := by decide +kernel
theorem dX11_divides_8 : decode cX11_divides 8 = .ok (.iconst 0, 1) := by decide +kernel
theorem dX11_divides_9 : decode cX11_divides 9 = .ok (.istore 4, 2) := by decide +kernel
theorem dX11_divides_11 : decode cX11_divides 11 = .ok (.iload 4, 2) := by decide +kernel
theorem dX11_divides_13 : decode cX11_divides 13 = .ok (.iload_n 3, 1) := by decide +kernel
theorem dX11_divides_14 : decode cX11_divides 14 = .ok (.if_icmp .gt 16, 3) := by decide +kernel
theorem dX11_divides_17 : decode cX11_divides 17 = .ok (.aload_n 2, 1) := by decide +kernel
theorem dX11_divides_18 : decode cX11_divides 18 = .ok (.iload 4, 2) := by decide +kernel
theorem dX11_divides_20 : decode cX11_divides 20 = .ok (.iconst 1, 1) := by decide +kernel
theorem dX11_divides_21 : decode cX11_divides 21 = .ok (.iadd, 1) := by decide +kernel
theorem dX11_divides_22 : decode cX11_divides 22 = .ok (.iconst 0, 1) := by decide +kernel
theorem dX11_divides_23 : decode cX11_divides 23 = .ok (.iastore, 1) := by decide +kernel
theorem dX11_divides_24 : decode cX11_divides 24 = .ok (.iinc 4 1, 3) := by decide +kernel
theorem dX11_divides_27 : decode cX11_divides 27 = .ok (.goto (-16), 3) := by decide +kernel
theorem dX11_divides_30 : decode cX11_divides 30 = .ok (.aload_n 2, 1) := by decide +kernel
theorem dX11_divides_31 : decode cX11_divides 31 = .ok (.iconst 0, 1) := by decide +kernel
theorem dX11_divides_32 : decode cX11_divides 32 = .ok (.iload_n 3, 1) := by decide +kernel
theorem dX11_divides_33 : decode cX11_divides 33 = .ok (.ifCond .ge 7, 3) := by decide +kernel
theorem dX11_divides_36 : decode cX11_divides 36 = .ok (.iconst (-1), 1) := by decide +kernel
theorem dX11_divides_37 : decode cX11_divides 37 = .ok (.goto 4, 3) := by decide +kernel
theorem dX11_divides_40 : decode cX11_divides 40 = .ok (.iload_n 3, 1) := by decide +kernel
theorem dX11_divides_41 : decode cX11_divides 41 = .ok (.iastore, 1) := by decide +kernel
theorem dX11_divides_42 : decode cX11_divides 42 = .ok (.aload_n 1, 1) := by decide +kernel
theorem dX11_divides_43 : decode cX11_divides 43 = .ok (.aload_n 1, 1) := by decide +kernel
theorem dX11_divides_44 : decode cX11_divides 44 = .ok (.iconst 0, 1) := by decide +kernel
theorem dX11_divides_45 : decode cX11_divides 45 = .ok (.iaload, 1) := by decide +kernel
theorem dX11_divides_46 : decode cX11_divides 46 = .ok (.iconst 1, 1) := by decide +kernel
theorem dX11_divides_47 : decode cX11_divides 47 = .ok (.iadd, 1) := by decide +kernel
theorem dX11_divides_48 : decode cX11_divides 48 = .ok (.iaload, 1) := by decide +kernel
theorem dX11_divides_49 : decode cX11_divides 49 = .ok (.invokestatic 93, 3) := by decide +kernel
theorem dX11_divides_52 : decode cX11_divides 52 = .ok (.istore 4, 2) := by decide +kernel
theorem dX11_divides_54 : decode cX11_divides 54 = .ok (.aload_n 0, 1) := by decide +kernel
theorem dX11_divides_55 : decode cX11_divides 55 = .ok (.iconst 0, 1) := by decide +kernel
theorem dX11_divides_56 : decode cX11_divides 56 = .ok (.iaload, 1) := by decide +kernel
theorem dX11_divides_57 : decode cX11_divides 57 = .ok (.aload_n 1, 1) := by decide +kernel
theorem dX11_divides_58 : decode cX11_divides 58 = .ok (.iconst 0, 1) := by decide +kernel
theorem dX11_divides_59 : decode cX11_divides 59 = .ok (.iaload, 1) := by decide +kernel
theorem dX11_divides_60 : decode cX11_divides 60 = .ok (.if_icmp .lt 93, 3) := by decide +kernel
theorem dX11_divides_63 : decode cX11_divides 63 = .ok (.aload_n 0, 1) := by decide +kernel
theorem dX11_divides_64 : decode cX11_divides 64 = .ok (.aload_n 0, 1) := by decide +kernel
theorem dX11_divides_65 : decode cX11_divides 65 = .ok (.iconst 0, 1) := by decide +kernel
theorem dX11_divides_66 : decode cX11_divides 66 = .ok (.iaload, 1) := by decide +kernel
theorem dX11_divides_67 : decode cX11_divides 67 = .ok (.iconst 1, 1) := by decide +kernel
theorem dX11_divides_68 : decode cX11_divides 68 = .ok (.iadd, 1) := by decide +kernel
theorem dX11_divides_69 : decode cX11_divides 69 = .ok (.iaload, 1) := by decide +kernel
theorem dX11_divides_70 : decode cX11_divides 70 = .ok (.iload 4, 2) := by decide +kernel
theorem dX11_divides_72 : decode cX11_divides 72 = .ok (.imul, 1) := by decide +kernel
theorem dX11_divides_73 : decode cX11_divides 73 = .ok (.bipush 31, 2) := by decide +kernel
theorem dX11_divides_75 : decode cX11_divides 75 = .ok (.irem, 1) := by decide +kernel
theorem dX11_divides_76 : decode cX11_divides 76 = .ok (.istore 5, 2) := by decide +kernel
theorem dX11_divides_78 : decode cX11_divides 78 = .ok (.aload_n 0, 1) := by decide +kernel
theorem dX11_divides_79 : decode cX11_divides 79 = .ok (.iconst 0, 1) := by decide +kernel
theorem dX11_divides_80 : decode cX11_divides 80 = .ok (.iaload, 1) := by decide +kernel
theorem dX11_divides_81 : decode cX11_divides 81 = .ok (.aload_n 1, 1) := by decide +kernel
theorem dX11_divides_82 : decode cX11_divides 82 = .ok (.iconst 0, 1) := by decide +kernel
theorem dX11_divides_83 : decode cX11_divides 83 = .ok (.iaload, 1) := by decide +kernel
theorem dX11_divides_84 : decode cX11_divides 84 = .ok (.isub, 1) := by decide +kernel
theorem dX11_divides_85 : decode cX11_divides 85 = .ok (.istore 6, 2) := by decide +kernel
theorem dX11_divides_87 : decode cX11_divides 87 = .ok (.aload_n 2, 1) := by decide +kernel
theorem dX11_divides_88 : decode cX11_divides 88 = .ok (.iload 6, 2) := by decide +kernel
theorem dX11_divides_90 : decode cX11_divides 90 = .ok (.iconst 1, 1) := by decide +kernel
theorem dX11_divides_91 : decode cX11_divides 91 = .ok (.iadd, 1) := by decide +kernel
theorem dX11_divides_92 : decode cX11_divides 92 = .ok (.iload 5, 2) := by decide +kernel
theorem dX11_divides_94 : decode cX11_divides 94 = .ok (.iastore, 1) := by decide +kernel
theorem dX11_divides_95 : decode cX11_divides 95 = .ok (.iconst 0, 1) := by decide +kernel
theorem dX11_divides_96 : decode cX11_divides 96 = .ok (.istore 7, 2) := by decide +kernel
theorem dX11_divides_98 : decode cX11_divides 98 = .ok (.iload 7, 2) := by decide +kernel
theorem dX11_divides_100 : decode cX11_divides 100 = .ok (.aload_n 1, 1) := by decide +kernel
theorem dX11_divides_101 : decode cX11_divides 101 = .ok (.iconst 0, 1) := by decide +kernel
theorem dX11_divides_102 : decode cX11_divides 102 = .ok (.iaload, 1) := by decide +kernel
theorem dX11_divides_103 : decode cX11_divides 103 = .ok (.if_icmp .gt 40, 3) := by decide +kernel
theorem dX11_divides_106 : decode cX11_divides 106 = .ok (.aload_n 0, 1) := by decide +kernel
theorem dX11_divides_107 : decode cX11_divides 107 = .ok (.iload 6, 2) := by decide +kernel
theorem dX11_divides_109 : decode cX11_divides 109 = .ok (.iload 7, 2) := by decide +kernel
theorem dX11_divides_111 : decode cX11_divides 111 = .ok (.iadd, 1) := by decide +kernel
theorem dX11_divides_112 : decode cX11_divides 112 = .ok (.iconst 1, 1) := by decide +kernel
theorem dX11_divides_113 : decode cX11_divides 113 = .ok (.iadd, 1) := by decide +kernel
theorem dX11_divides_114 : decode cX11_divides 114 = .ok (.aload_n 0, 1) := by decide +kernel
theorem dX11_divides_115 : decode cX11_divides 115 = .ok (.iload 6, 2) := by decide +kernel
theorem dX11_divides_117 : decode cX11_divides 117 = .ok (.iload 7, 2) := by decide +kernel
theorem dX11_divides_119 : decode cX11_divides 119 = .ok (.iadd, 1) := by decide +kernel
theorem dX11_divides_120 : decode cX11_divides 120 = .ok (.iconst 1, 1) := by decide +kernel
theorem dX11_divides_121 : decode cX11_divides 121 = .ok (.iadd, 1) := by decide +kernel
theorem dX11_divides_122 : decode cX11_divides 122 = .ok (.iaload, 1) := by decide +kernel
theorem dX11_divides_123 : decode cX11_divides 123 = .ok (.iload 5, 2) := by decide +kernel
theorem dX11_divides_125 : decode cX11_divides 125 = .ok (.aload_n 1, 1) := by decide +kernel
theorem dX11_divides_126 : decode cX11_divides 126 = .ok (.iload 7, 2) := by decide +kernel
theorem dX11_divides_128 : decode cX11_divides 128 = .ok (.iconst 1, 1) := by decide +kernel
theorem dX11_divides_129 : decode cX11_divides 129 = .ok (.iadd, 1) := by decide +kernel
theorem dX11_divides_130 : decode cX11_divides 130 = .ok (.iaload, 1) := by decide +kernel
theorem dX11_divides_131 : decode cX11_divides 131 = .ok (.imul, 1) := by decide +kernel
theorem dX11_divides_132 : decode cX11_divides 132 = .ok (.isub, 1) := by decide +kernel
theorem dX11_divides_133 : decode cX11_divides 133 = .ok (.invokestatic 140, 3) := by decide +kernel
theorem dX11_divides_136 : decode cX11_divides 136 = .ok (.iastore, 1) := by decide +kernel
theorem dX11_divides_137 : decode cX11_divides 137 = .ok (.iinc 7 1, 3) := by decide +kernel
theorem dX11_divides_140 : decode cX11_divides 140 = .ok (.goto (-42), 3) := by decide +kernel
theorem dX11_divides_143 : decode cX11_divides 143 = .ok (.aload_n 0, 1) := by decide +kernel
theorem dX11_divides_144 : decode cX11_divides 144 = .ok (.aload_n 0, 1) := by decide +kernel
theorem dX11_divides_145 : decode cX11_divides 145 = .ok (.iconst 0, 1) := by decide +kernel
theorem dX11_divides_146 : decode cX11_divides 146 = .ok (.iaload, 1) := by decide +kernel
theorem dX11_divides_147 : decode cX11_divides 147 = .ok (.invokestatic 179, 3) := by decide +kernel
theorem dX11_divides_150 : decode cX11_divides 150 = .ok (.goto (-96), 3) := by decide +kernel
theorem dX11_divides_153 : decode cX11_divides 153 = .ok (.return_, 1) := by decide +kernel
theorem dX11_lowers_0 : decode cX11_lowers 0 = .ok (.aload_n 0, 1) := by decide +kernel
theorem dX11_lowers_1 : decode cX11_lowers 1 = .ok (.getfield 60, 3) := by decide +kernel
theorem dX11_lowers_4 : decode cX11_lowers 4 = .ok (.aload_n 1, 1) := by decide +kernel
theorem dX11_lowers_5 : decode cX11_lowers 5 = .ok (.invokestatic 183, 3) := by decide +kernel
theorem dX11_lowers_8 : decode cX11_lowers 8 = .ok (.aload_n 0, 1) := by decide +kernel
theorem dX11_lowers_9 : decode cX11_lowers 9 = .ok (.getfield 63, 3) := by decide +kernel
theorem dX11_lowers_12 : decode cX11_lowers 12 = .ok (.aload_n 2, 1) := by decide +kernel
theorem dX11_lowers_13 : decode cX11_lowers 13 = .ok (.invokestatic 183, 3) := by decide +kernel
theorem dX11_lowers_16 : decode cX11_lowers 16 = .ok (.aload_n 0, 1) := by decide +kernel
theorem dX11_lowers_17 : decode cX11_lowers 17 = .ok (.getfield 63, 3) := by decide +kernel
theorem dX11_lowers_20 : decode cX11_lowers 20 = .ok (.iconst 0, 1) := by decide +kernel
theorem dX11_lowers_21 : decode cX11_lowers 21 = .ok (.iaload, 1) := by decide +kernel
theorem dX11_lowers_22 : decode cX11_lowers 22 = .ok (.ifCond .lt 54, 3) := by decide +kernel
theorem dX11_lowers_25 : decode cX11_lowers 25 = .ok (.aload_n 0, 1) := by decide +kernel
theorem dX11_lowers_26 : decode cX11_lowers 26 = .ok (.getfield 60, 3) := by decide +kernel
theorem dX11_lowers_29 : decode cX11_lowers 29 = .ok (.aload_n 0, 1) := by decide +kernel
theorem dX11_lowers_30 : decode cX11_lowers 30 = .ok (.getfield 63, 3) := by decide +kernel
theorem dX11_lowers_33 : decode cX11_lowers 33 = .ok (.aload_n 0, 1) := by decide +kernel
theorem dX11_lowers_34 : decode cX11_lowers 34 = .ok (.getfield 66, 3) := by decide +kernel
theorem dX11_lowers_37 : decode cX11_lowers 37 = .ok (.invokestatic 187, 3) := by decide +kernel
theorem dX11_lowers_40 : decode cX11_lowers 40 = .ok (.aload_n 0, 1) := by decide +kernel
theorem dX11_lowers_41 : decode cX11_lowers 41 = .ok (.getfield 66, 3) := by decide +kernel
theorem dX11_lowers_44 : decode cX11_lowers 44 = .ok (.aload_n 0, 1) := by decide +kernel
theorem dX11_lowers_45 : decode cX11_lowers 45 = .ok (.getfield 60, 3) := by decide +kernel
theorem dX11_lowers_48 : decode cX11_lowers 48 = .ok (.invokestatic 183, 3) := by decide +kernel
theorem dX11_lowers_51 : decode cX11_lowers 51 = .ok (.aload_n 0, 1) := by decide +kernel
theorem dX11_lowers_52 : decode cX11_lowers 52 = .ok (.getfield 60, 3) := by decide +kernel
theorem dX11_lowers_55 : decode cX11_lowers 55 = .ok (.aload_n 0, 1) := by decide +kernel
theorem dX11_lowers_56 : decode cX11_lowers 56 = .ok (.getfield 63, 3) := by decide +kernel
theorem dX11_lowers_59 : decode cX11_lowers 59 = .ok (.invokestatic 183, 3) := by decide +kernel
theorem dX11_lowers_62 : decode cX11_lowers 62 = .ok (.aload_n 0, 1) := by decide +kernel
theorem dX11_lowers_63 : decode cX11_lowers 63 = .ok (.getfield 63, 3) := by decide +kernel
theorem dX11_lowers_66 : decode cX11_lowers 66 = .ok (.aload_n 0, 1) := by decide +kernel
theorem dX11_lowers_67 : decode cX11_lowers 67 = .ok (.getfield 66, 3) := by decide +kernel
theorem dX11_lowers_70 : decode cX11_lowers 70 = .ok (.invokestatic 183, 3) := by decide +kernel
theorem dX11_lowers_73 : decode cX11_lowers 73 = .ok (.goto (-57), 3) := by decide +kernel
theorem dX11_lowers_76 : decode cX11_lowers 76 = .ok (.aload_n 0, 1) := by decide +kernel
theorem dX11_lowers_77 : decode cX11_lowers 77 = .ok (.getfield 63, 3) := by decide +kernel
theorem dX11_lowers_80 : decode cX11_lowers 80 = .ok (.aload_n 1, 1) := by decide +kernel
theorem dX11_lowers_81 : decode cX11_lowers 81 = .ok (.invokestatic 183, 3) := by decide +kernel
theorem dX11_lowers_84 : decode cX11_lowers 84 = .ok (.aload_n 0, 1) := by decide +kernel
theorem dX11_lowers_85 : decode cX11_lowers 85 = .ok (.getfield 63, 3) := by decide +kernel
theorem dX11_lowers_88 : decode cX11_lowers 88 = .ok (.aload_n 0, 1) := by decide +kernel
theorem dX11_lowers_89 : decode cX11_lowers 89 = .ok (.getfield 60, 3) := by decide +kernel
theorem dX11_lowers_92 : decode cX11_lowers 92 = .ok (.aload_n 0, 1) := by decide +kernel
theorem dX11_lowers_93 : decode cX11_lowers 93 = .ok (.getfield 66, 3) := by decide +kernel
theorem dX11_lowers_96 : decode cX11_lowers 96 = .ok (.invokestatic 187, 3) := by decide +kernel
theorem dX11_lowers_99 : decode cX11_lowers 99 = .ok (.aload_n 1, 1) := by decide +kernel
theorem dX11_lowers_100 : decode cX11_lowers 100 = .ok (.aload_n 0, 1) := by decide +kernel
theorem dX11_lowers_101 : decode cX11_lowers 101 = .ok (.getfield 66, 3) := by decide +kernel
theorem dX11_lowers_104 : decode cX11_lowers 104 = .ok (.invokestatic 183, 3) := by decide +kernel
theorem dX11_lowers_107 : decode cX11_lowers 107 = .ok (.aload_n 0, 1) := by decide +kernel
theorem dX11_lowers_108 : decode cX11_lowers 108 = .ok (.getfield 63, 3) := by decide +kernel
theorem dX11_lowers_111 : decode cX11_lowers 111 = .ok (.aload_n 2, 1) := by decide +kernel
theorem dX11_lowers_112 : decode cX11_lowers 112 = .ok (.invokestatic 183, 3) := by decide +kernel
theorem dX11_lowers_115 : decode cX11_lowers 115 = .ok (.aload_n 0, 1) := by decide +kernel
theorem dX11_lowers_116 : decode cX11_lowers 116 = .ok (.getfield 63, 3) := by decide +kernel
theorem dX11_lowers_119 : decode cX11_lowers 119 = .ok (.aload_n 0, 1) := by decide +kernel
theorem dX11_lowers_120 : decode cX11_lowers 120 = .ok (.getfield 60, 3) := by decide +kernel
theorem dX11_lowers_123 : decode cX11_lowers 123 = .ok (.aload_n 0, 1) := by decide +kernel
theorem dX11_lowers_124 : decode cX11_lowers 124 = .ok (.getfield 66, 3) := by decide +kernel
theorem dX11_lowers_127 : decode cX11_lowers 127 = .ok (.invokestatic 187, 3) := by decide +kernel
theorem dX11_lowers_130 : decode cX11_lowers 130 = .ok (.aload_n 2, 1) := by decide +kernel
theorem dX11_lowers_131 : decode cX11_lowers 131 = .ok (.aload_n 0, 1) := by decide +kernel
theorem dX11_lowers_132 : decode cX11_lowers 132 = .ok (.getfield 66, 3) := by decide +kernel
theorem dX11_lowers_135 : decode cX11_lowers 135 = .ok (.invokestatic 183, 3) := by decide +kernel
theorem dX11_lowers_138 : decode cX11_lowers 138 = .ok (.return_, 1) := by decide +kernel
theorem dX11_rowsAt_0 : decode cX11_rowsAt 0 = .ok (.iconst 0, 1) := by decide +kernel
theorem dX11_rowsAt_1 : decode cX11_rowsAt 1 = .ok (.istore 4, 2) := by decide +kernel
theorem dX11_rowsAt_3 : decode cX11_rowsAt 3 = .ok (.iload 4, 2) := by decide +kernel
theorem dX11_rowsAt_5 : decode cX11_rowsAt 5 = .ok (.iconst 2, 1) := by decide +kernel
theorem dX11_rowsAt_6 : decode cX11_rowsAt 6 = .ok (.if_icmp .ge 149, 3) := by decide +kernel
theorem dX11_rowsAt_9 : decode cX11_rowsAt 9 = .ok (.iconst 0, 1) := by decide +kernel
theorem dX11_rowsAt_10 : decode cX11_rowsAt 10 = .ok (.istore 5, 2) := by decide +kernel
theorem dX11_rowsAt_12 : decode cX11_rowsAt 12 = .ok (.iload 5, 2) := by decide +kernel
theorem dX11_rowsAt_14 : decode cX11_rowsAt 14 = .ok (.iconst 3, 1) := by decide +kernel
theorem dX11_rowsAt_15 : decode cX11_rowsAt 15 = .ok (.if_icmp .ge 134, 3) := by decide +kernel
theorem dX11_rowsAt_18 : decode cX11_rowsAt 18 = .ok (.aload_n 0, 1) := by decide +kernel
theorem dX11_rowsAt_19 : decode cX11_rowsAt 19 = .ok (.getfield 48, 3) := by decide +kernel
theorem dX11_rowsAt_22 : decode cX11_rowsAt 22 = .ok (.iconst 3, 1) := by decide +kernel
theorem dX11_rowsAt_23 : decode cX11_rowsAt 23 = .ok (.iload 4, 2) := by decide +kernel
theorem dX11_rowsAt_25 : decode cX11_rowsAt 25 = .ok (.imul, 1) := by decide +kernel
theorem dX11_rowsAt_26 : decode cX11_rowsAt 26 = .ok (.iload 5, 2) := by decide +kernel
theorem dX11_rowsAt_28 : decode cX11_rowsAt 28 = .ok (.iadd, 1) := by decide +kernel
theorem dX11_rowsAt_29 : decode cX11_rowsAt 29 = .ok (.aaload, 1) := by decide +kernel
theorem dX11_rowsAt_30 : decode cX11_rowsAt 30 = .ok (.astore 6, 2) := by decide +kernel
theorem dX11_rowsAt_32 : decode cX11_rowsAt 32 = .ok (.aload 6, 2) := by decide +kernel
theorem dX11_rowsAt_34 : decode cX11_rowsAt 34 = .ok (.iconst 0, 1) := by decide +kernel
theorem dX11_rowsAt_35 : decode cX11_rowsAt 35 = .ok (.invokestatic 191, 3) := by decide +kernel
theorem dX11_rowsAt_38 : decode cX11_rowsAt 38 = .ok (.iconst 0, 1) := by decide +kernel
theorem dX11_rowsAt_39 : decode cX11_rowsAt 39 = .ok (.istore 7, 2) := by decide +kernel
theorem dX11_rowsAt_41 : decode cX11_rowsAt 41 = .ok (.iload 7, 2) := by decide +kernel
theorem dX11_rowsAt_43 : decode cX11_rowsAt 43 = .ok (.iconst 3, 1) := by decide +kernel
theorem dX11_rowsAt_44 : decode cX11_rowsAt 44 = .ok (.if_icmp .ge 99, 3) := by decide +kernel
theorem dX11_rowsAt_47 : decode cX11_rowsAt 47 = .ok (.aload_n 0, 1) := by decide +kernel
theorem dX11_rowsAt_48 : decode cX11_rowsAt 48 = .ok (.getfield 63, 3) := by decide +kernel
theorem dX11_rowsAt_51 : decode cX11_rowsAt 51 = .ok (.iload 7, 2) := by decide +kernel
theorem dX11_rowsAt_53 : decode cX11_rowsAt 53 = .ok (.ifCond .ne 7, 3) := by decide +kernel
theorem dX11_rowsAt_56 : decode cX11_rowsAt 56 = .ok (.aload_n 3, 1) := by decide +kernel
theorem dX11_rowsAt_57 : decode cX11_rowsAt 57 = .ok (.goto 4, 3) := by decide +kernel
theorem dX11_rowsAt_60 : decode cX11_rowsAt 60 = .ok (.aload_n 2, 1) := by decide +kernel
theorem dX11_rowsAt_61 : decode cX11_rowsAt 61 = .ok (.iload 7, 2) := by decide +kernel
theorem dX11_rowsAt_63 : decode cX11_rowsAt 63 = .ok (.iconst 2, 1) := by decide +kernel
theorem dX11_rowsAt_64 : decode cX11_rowsAt 64 = .ok (.if_icmp .ne 7, 3) := by decide +kernel
theorem dX11_rowsAt_67 : decode cX11_rowsAt 67 = .ok (.aload_n 2, 1) := by decide +kernel
theorem dX11_rowsAt_68 : decode cX11_rowsAt 68 = .ok (.goto 4, 3) := by decide +kernel
theorem dX11_rowsAt_71 : decode cX11_rowsAt 71 = .ok (.aload_n 3, 1) := by decide +kernel
theorem dX11_rowsAt_72 : decode cX11_rowsAt 72 = .ok (.invokestatic 194, 3) := by decide +kernel
theorem dX11_rowsAt_75 : decode cX11_rowsAt 75 = .ok (.aload_n 0, 1) := by decide +kernel
theorem dX11_rowsAt_76 : decode cX11_rowsAt 76 = .ok (.getfield 60, 3) := by decide +kernel
theorem dX11_rowsAt_79 : decode cX11_rowsAt 79 = .ok (.aload 6, 2) := by decide +kernel
theorem dX11_rowsAt_81 : decode cX11_rowsAt 81 = .ok (.invokestatic 183, 3) := by decide +kernel
theorem dX11_rowsAt_84 : decode cX11_rowsAt 84 = .ok (.iload_n 1, 1) := by decide +kernel
theorem dX11_rowsAt_85 : decode cX11_rowsAt 85 = .ok (.ifCond .ne 20, 3) := by decide +kernel
theorem dX11_rowsAt_88 : decode cX11_rowsAt 88 = .ok (.aload_n 0, 1) := by decide +kernel
theorem dX11_rowsAt_89 : decode cX11_rowsAt 89 = .ok (.getfield 11, 3) := by decide +kernel
theorem dX11_rowsAt_92 : decode cX11_rowsAt 92 = .ok (.iload 4, 2) := by decide +kernel
theorem dX11_rowsAt_94 : decode cX11_rowsAt 94 = .ok (.iload 5, 2) := by decide +kernel
theorem dX11_rowsAt_96 : decode cX11_rowsAt 96 = .ok (.iload 7, 2) := by decide +kernel
theorem dX11_rowsAt_98 : decode cX11_rowsAt 98 = .ok (.invokestatic 115, 3) := by decide +kernel
theorem dX11_rowsAt_101 : decode cX11_rowsAt 101 = .ok (.iaload, 1) := by decide +kernel
theorem dX11_rowsAt_102 : decode cX11_rowsAt 102 = .ok (.goto 17, 3) := by decide +kernel
theorem dX11_rowsAt_105 : decode cX11_rowsAt 105 = .ok (.aload_n 0, 1) := by decide +kernel
theorem dX11_rowsAt_106 : decode cX11_rowsAt 106 = .ok (.getfield 11, 3) := by decide +kernel
theorem dX11_rowsAt_109 : decode cX11_rowsAt 109 = .ok (.iload 4, 2) := by decide +kernel
theorem dX11_rowsAt_111 : decode cX11_rowsAt 111 = .ok (.iload 7, 2) := by decide +kernel
theorem dX11_rowsAt_113 : decode cX11_rowsAt 113 = .ok (.iload 5, 2) := by decide +kernel
theorem dX11_rowsAt_115 : decode cX11_rowsAt 115 = .ok (.invokestatic 115, 3) := by decide +kernel
theorem dX11_rowsAt_118 : decode cX11_rowsAt 118 = .ok (.iaload, 1) := by decide +kernel
theorem dX11_rowsAt_119 : decode cX11_rowsAt 119 = .ok (.istore 8, 2) := by decide +kernel
theorem dX11_rowsAt_121 : decode cX11_rowsAt 121 = .ok (.aload 6, 2) := by decide +kernel
theorem dX11_rowsAt_123 : decode cX11_rowsAt 123 = .ok (.iconst 1, 1) := by decide +kernel
theorem dX11_rowsAt_124 : decode cX11_rowsAt 124 = .ok (.aload_n 0, 1) := by decide +kernel
theorem dX11_rowsAt_125 : decode cX11_rowsAt 125 = .ok (.getfield 60, 3) := by decide +kernel
theorem dX11_rowsAt_128 : decode cX11_rowsAt 128 = .ok (.iload 8, 2) := by decide +kernel
theorem dX11_rowsAt_130 : decode cX11_rowsAt 130 = .ok (.aload_n 0, 1) := by decide +kernel
theorem dX11_rowsAt_131 : decode cX11_rowsAt 131 = .ok (.getfield 63, 3) := by decide +kernel
theorem dX11_rowsAt_134 : decode cX11_rowsAt 134 = .ok (.invokestatic 197, 3) := by decide +kernel
theorem dX11_rowsAt_137 : decode cX11_rowsAt 137 = .ok (.iinc 7 1, 3) := by decide +kernel
theorem dX11_rowsAt_140 : decode cX11_rowsAt 140 = .ok (.goto (-99), 3) := by decide +kernel
theorem dX11_rowsAt_143 : decode cX11_rowsAt 143 = .ok (.iinc 5 1, 3) := by decide +kernel
theorem dX11_rowsAt_146 : decode cX11_rowsAt 146 = .ok (.goto (-134), 3) := by decide +kernel
theorem dX11_rowsAt_149 : decode cX11_rowsAt 149 = .ok (.iinc 4 1, 3) := by decide +kernel
theorem dX11_rowsAt_152 : decode cX11_rowsAt 152 = .ok (.goto (-149), 3) := by decide +kernel
theorem dX11_rowsAt_155 : decode cX11_rowsAt 155 = .ok (.return_, 1) := by decide +kernel
theorem dX11_crosses_0 : decode cX11_crosses 0 = .ok (.aload_n 0, 1) := by decide +kernel
theorem dX11_crosses_1 : decode cX11_crosses 1 = .ok (.getfield 60, 3) := by decide +kernel
theorem dX11_crosses_4 : decode cX11_crosses 4 = .ok (.aload_n 0, 1) := by decide +kernel
theorem dX11_crosses_5 : decode cX11_crosses 5 = .ok (.getfield 48, 3) := by decide +kernel
theorem dX11_crosses_8 : decode cX11_crosses 8 = .ok (.iload_n 2, 1) := by decide +kernel
theorem dX11_crosses_9 : decode cX11_crosses 9 = .ok (.aaload, 1) := by decide +kernel
theorem dX11_crosses_10 : decode cX11_crosses 10 = .ok (.aload_n 0, 1) := by decide +kernel
theorem dX11_crosses_11 : decode cX11_crosses 11 = .ok (.getfield 48, 3) := by decide +kernel
theorem dX11_crosses_14 : decode cX11_crosses 14 = .ok (.iconst 3, 1) := by decide +kernel
theorem dX11_crosses_15 : decode cX11_crosses 15 = .ok (.iload_n 3, 1) := by decide +kernel
theorem dX11_crosses_16 : decode cX11_crosses 16 = .ok (.iadd, 1) := by decide +kernel
theorem dX11_crosses_17 : decode cX11_crosses 17 = .ok (.aaload, 1) := by decide +kernel
theorem dX11_crosses_18 : decode cX11_crosses 18 = .ok (.invokestatic 194, 3) := by decide +kernel
theorem dX11_crosses_21 : decode cX11_crosses 21 = .ok (.aload_n 0, 1) := by decide +kernel
theorem dX11_crosses_22 : decode cX11_crosses 22 = .ok (.getfield 63, 3) := by decide +kernel
theorem dX11_crosses_25 : decode cX11_crosses 25 = .ok (.aload_n 0, 1) := by decide +kernel
theorem dX11_crosses_26 : decode cX11_crosses 26 = .ok (.getfield 48, 3) := by decide +kernel
theorem dX11_crosses_29 : decode cX11_crosses 29 = .ok (.iload_n 3, 1) := by decide +kernel
theorem dX11_crosses_30 : decode cX11_crosses 30 = .ok (.aaload, 1) := by decide +kernel
theorem dX11_crosses_31 : decode cX11_crosses 31 = .ok (.aload_n 0, 1) := by decide +kernel
theorem dX11_crosses_32 : decode cX11_crosses 32 = .ok (.getfield 48, 3) := by decide +kernel
theorem dX11_crosses_35 : decode cX11_crosses 35 = .ok (.iconst 3, 1) := by decide +kernel
theorem dX11_crosses_36 : decode cX11_crosses 36 = .ok (.iload_n 2, 1) := by decide +kernel
theorem dX11_crosses_37 : decode cX11_crosses 37 = .ok (.iadd, 1) := by decide +kernel
theorem dX11_crosses_38 : decode cX11_crosses 38 = .ok (.aaload, 1) := by decide +kernel
theorem dX11_crosses_39 : decode cX11_crosses 39 = .ok (.invokestatic 194, 3) := by decide +kernel
theorem dX11_crosses_42 : decode cX11_crosses 42 = .ok (.aload_n 1, 1) := by decide +kernel
theorem dX11_crosses_43 : decode cX11_crosses 43 = .ok (.iconst 1, 1) := by decide +kernel
theorem dX11_crosses_44 : decode cX11_crosses 44 = .ok (.aload_n 0, 1) := by decide +kernel
theorem dX11_crosses_45 : decode cX11_crosses 45 = .ok (.getfield 60, 3) := by decide +kernel
theorem dX11_crosses_48 : decode cX11_crosses 48 = .ok (.bipush 30, 2) := by decide +kernel
theorem dX11_crosses_50 : decode cX11_crosses 50 = .ok (.aload_n 0, 1) := by decide +kernel
theorem dX11_crosses_51 : decode cX11_crosses 51 = .ok (.getfield 63, 3) := by decide +kernel
theorem dX11_crosses_54 : decode cX11_crosses 54 = .ok (.invokestatic 197, 3) := by decide +kernel
theorem dX11_crosses_57 : decode cX11_crosses 57 = .ok (.return_, 1) := by decide +kernel
theorem dX11_isSwapped_0 : decode cX11_isSwapped 0 = .ok (.aload_n 0, 1) := by decide +kernel
theorem dX11_isSwapped_1 : decode cX11_isSwapped 1 = .ok (.iload_n 1, 1) := by decide +kernel
theorem dX11_isSwapped_2 : decode cX11_isSwapped 2 = .ok (.aload 4, 2) := by decide +kernel
theorem dX11_isSwapped_4 : decode cX11_isSwapped 4 = .ok (.aload 5, 2) := by decide +kernel
theorem dX11_isSwapped_6 : decode cX11_isSwapped 6 = .ok (.invokevirtual 201, 3) := by decide +kernel
theorem dX11_isSwapped_9 : decode cX11_isSwapped 9 = .ok (.aload_n 0, 1) := by decide +kernel
theorem dX11_isSwapped_10 : decode cX11_isSwapped 10 = .ok (.aload_n 0, 1) := by decide +kernel
theorem dX11_isSwapped_11 : decode cX11_isSwapped 11 = .ok (.getfield 51, 3) := by decide +kernel
theorem dX11_isSwapped_14 : decode cX11_isSwapped 14 = .ok (.iconst 2, 1) := by decide +kernel
theorem dX11_isSwapped_15 : decode cX11_isSwapped 15 = .ok (.iconst 1, 1) := by decide +kernel
theorem dX11_isSwapped_16 : decode cX11_isSwapped 16 = .ok (.invokevirtual 205, 3) := by decide +kernel
theorem dX11_isSwapped_19 : decode cX11_isSwapped 19 = .ok (.aload_n 0, 1) := by decide +kernel
theorem dX11_isSwapped_20 : decode cX11_isSwapped 20 = .ok (.aload_n 0, 1) := by decide +kernel
theorem dX11_isSwapped_21 : decode cX11_isSwapped 21 = .ok (.getfield 54, 3) := by decide +kernel
theorem dX11_isSwapped_24 : decode cX11_isSwapped 24 = .ok (.iconst 2, 1) := by decide +kernel
theorem dX11_isSwapped_25 : decode cX11_isSwapped 25 = .ok (.iconst 0, 1) := by decide +kernel
theorem dX11_isSwapped_26 : decode cX11_isSwapped 26 = .ok (.invokevirtual 205, 3) := by decide +kernel
theorem dX11_isSwapped_29 : decode cX11_isSwapped 29 = .ok (.aload_n 0, 1) := by decide +kernel
theorem dX11_isSwapped_30 : decode cX11_isSwapped 30 = .ok (.aload_n 0, 1) := by decide +kernel
theorem dX11_isSwapped_31 : decode cX11_isSwapped 31 = .ok (.getfield 57, 3) := by decide +kernel
theorem dX11_isSwapped_34 : decode cX11_isSwapped 34 = .ok (.iconst 1, 1) := by decide +kernel
theorem dX11_isSwapped_35 : decode cX11_isSwapped 35 = .ok (.iconst 0, 1) := by decide +kernel
theorem dX11_isSwapped_36 : decode cX11_isSwapped 36 = .ok (.invokevirtual 205, 3) := by decide +kernel
