theorem dX10_in_0 : decode cX10_in 0 = .ok (.lload_n 0, 1) := by decide +kernel
theorem dX10_in_1 : decode cX10_in 1 = .ok (.lload_n 2, 1) := by decide +kernel
theorem dX10_in_2 : decode cX10_in 2 = .ok (.lcmp, 1) := by decide +kernel
theorem dX10_in_3 : decode cX10_in 3 = .ok (.ifCond .lt 14, 3) := by decide +kernel
theorem dX10_in_6 : decode cX10_in 6 = .ok (.lload_n 0, 1) := by decide +kernel
theorem dX10_in_7 : decode cX10_in 7 = .ok (.lload 4, 2) := by decide +kernel
theorem dX10_in_9 : decode cX10_in 9 = .ok (.lcmp, 1) := by decide +kernel
theorem dX10_in_10 : decode cX10_in 10 = .ok (.ifCond .gt 7, 3) := by decide +kernel
theorem dX10_in_13 : decode cX10_in 13 = .ok (.iconst 1, 1) := by decide +kernel
theorem dX10_in_14 : decode cX10_in 14 = .ok (.goto 4, 3) := by decide +kernel
theorem dX10_in_17 : decode cX10_in 17 = .ok (.iconst 0, 1) := by decide +kernel
theorem dX10_in_18 : decode cX10_in 18 = .ok (.ireturn, 1) := by decide +kernel
theorem dX10_within_0 : decode cX10_within 0 = .ok (.iload_n 0, 1) := by decide +kernel
theorem dX10_within_1 : decode cX10_within 1 = .ok (.iload_n 1, 1) := by decide +kernel
theorem dX10_within_2 : decode cX10_within 2 = .ok (.if_icmp .ge 7, 3) := by decide +kernel
theorem dX10_within_5 : decode cX10_within 5 = .ok (.iload_n 1, 1) := by decide +kernel
theorem dX10_within_6 : decode cX10_within 6 = .ok (.goto 13, 3) := by decide +kernel
theorem dX10_within_9 : decode cX10_within 9 = .ok (.iload_n 0, 1) := by decide +kernel
theorem dX10_within_10 : decode cX10_within 10 = .ok (.iload_n 2, 1) := by decide +kernel
theorem dX10_within_11 : decode cX10_within 11 = .ok (.if_icmp .le 7, 3) := by decide +kernel
theorem dX10_within_14 : decode cX10_within 14 = .ok (.iload_n 2, 1) := by decide +kernel
theorem dX10_within_15 : decode cX10_within 15 = .ok (.goto 4, 3) := by decide +kernel
theorem dX10_within_18 : decode cX10_within 18 = .ok (.iload_n 0, 1) := by decide +kernel
theorem dX10_within_19 : decode cX10_within 19 = .ok (.ireturn, 1) := by decide +kernel
theorem dX10_init_0 : decode cX10_init 0 = .ok (.aload_n 0, 1) := by decide +kernel
theorem dX10_init_1 : decode cX10_init 1 = .ok (.invokespecial 7, 3) := by decide +kernel
theorem dX10_init_4 : decode cX10_init 4 = .ok (.aload_n 0, 1) := by decide +kernel
theorem dX10_init_5 : decode cX10_init 5 = .ok (.sipush 960, 3) := by decide +kernel
theorem dX10_init_8 : decode cX10_init 8 = .ok (.newarray .int, 2) := by decide +kernel
theorem dX10_init_10 : decode cX10_init 10 = .ok (.putfield 13, 3) := by decide +kernel
theorem dX10_init_13 : decode cX10_init 13 = .ok (.aload_n 0, 1) := by decide +kernel
theorem dX10_init_14 : decode cX10_init 14 = .ok (.bipush 6, 2) := by decide +kernel
theorem dX10_init_16 : decode cX10_init 16 = .ok (.newarray .int, 2) := by decide +kernel
theorem dX10_init_18 : decode cX10_init 18 = .ok (.putfield 17, 3) := by decide +kernel
theorem dX10_init_21 : decode cX10_init 21 = .ok (.aload_n 0, 1) := by decide +kernel
theorem dX10_init_22 : decode cX10_init 22 = .ok (.sipush 160, 3) := by decide +kernel
theorem dX10_init_25 : decode cX10_init 25 = .ok (.newarray .int, 2) := by decide +kernel
theorem dX10_init_27 : decode cX10_init 27 = .ok (.putfield 20, 3) := by decide +kernel
theorem dX10_init_30 : decode cX10_init 30 = .ok (.aload_n 0, 1) := by decide +kernel
theorem dX10_init_31 : decode cX10_init 31 = .ok (.bipush 60, 2) := by decide +kernel
theorem dX10_init_33 : decode cX10_init 33 = .ok (.putfield 23, 3) := by decide +kernel
theorem dX10_init_36 : decode cX10_init 36 = .ok (.aload_n 0, 1) := by decide +kernel
theorem dX10_init_37 : decode cX10_init 37 = .ok (.bipush 6, 2) := by decide +kernel
theorem dX10_init_39 : decode cX10_init 39 = .ok (.newarray .int, 2) := by decide +kernel
theorem dX10_init_41 : decode cX10_init 41 = .ok (.putfield 26, 3) := by decide +kernel
theorem dX10_init_44 : decode cX10_init 44 = .ok (.aload_n 0, 1) := by decide +kernel
theorem dX10_init_45 : decode cX10_init 45 = .ok (.bipush 18, 2) := by decide +kernel
theorem dX10_init_47 : decode cX10_init 47 = .ok (.newarray .int, 2) := by decide +kernel
theorem dX10_init_49 : decode cX10_init 49 = .ok (.putfield 29, 3) := by decide +kernel
theorem dX10_init_52 : decode cX10_init 52 = .ok (.aload_n 0, 1) := by decide +kernel
theorem dX10_init_53 : decode cX10_init 53 = .ok (.bipush 6, 2) := by decide +kernel
theorem dX10_init_55 : decode cX10_init 55 = .ok (.newarray .int, 2) := by decide +kernel
theorem dX10_init_57 : decode cX10_init 57 = .ok (.putfield 32, 3) := by decide +kernel
theorem dX10_init_60 : decode cX10_init 60 = .ok (.aload_n 0, 1) := by decide +kernel
theorem dX10_init_61 : decode cX10_init 61 = .ok (.bipush 36, 2) := by decide +kernel
theorem dX10_init_63 : decode cX10_init 63 = .ok (.newarray .int, 2) := by decide +kernel
theorem dX10_init_65 : decode cX10_init 65 = .ok (.putfield 35, 3) := by decide +kernel
theorem dX10_init_68 : decode cX10_init 68 = .ok (.aload_n 0, 1) := by decide +kernel
theorem dX10_init_69 : decode cX10_init 69 = .ok (.bipush 6, 2) := by decide +kernel
theorem dX10_init_71 : decode cX10_init 71 = .ok (.newarray .int, 2) := by decide +kernel
theorem dX10_init_73 : decode cX10_init 73 = .ok (.putfield 38, 3) := by decide +kernel
theorem dX10_init_76 : decode cX10_init 76 = .ok (.aload_n 0, 1) := by decide +kernel
theorem dX10_init_77 : decode cX10_init 77 = .ok (.bipush 6, 2) := by decide +kernel
theorem dX10_init_79 : decode cX10_init 79 = .ok (.newarray .int, 2) := by decide +kernel
theorem dX10_init_81 : decode cX10_init 81 = .ok (.putfield 41, 3) := by decide +kernel
theorem dX10_init_84 : decode cX10_init 84 = .ok (.aload_n 0, 1) := by decide +kernel
theorem dX10_init_85 : decode cX10_init 85 = .ok (.bipush 6, 2) := by decide +kernel
theorem dX10_init_87 : decode cX10_init 87 = .ok (.newarray .int, 2) := by decide +kernel
theorem dX10_init_89 : decode cX10_init 89 = .ok (.putfield 44, 3) := by decide +kernel
theorem dX10_init_92 : decode cX10_init 92 = .ok (.aload_n 0, 1) := by decide +kernel
theorem dX10_init_93 : decode cX10_init 93 = .ok (.bipush 18, 2) := by decide +kernel
theorem dX10_init_95 : decode cX10_init 95 = .ok (.newarray .int, 2) := by decide +kernel
theorem dX10_init_97 : decode cX10_init 97 = .ok (.putfield 47, 3) := by decide +kernel
theorem dX10_init_100 : decode cX10_init 100 = .ok (.aload_n 0, 1) := by decide +kernel
theorem dX10_init_101 : decode cX10_init 101 = .ok (.bipush 6, 2) := by decide +kernel
theorem dX10_init_103 : decode cX10_init 103 = .ok (.newarray .int, 2) := by decide +kernel
theorem dX10_init_105 : decode cX10_init 105 = .ok (.putfield 50, 3) := by decide +kernel
theorem dX10_init_108 : decode cX10_init 108 = .ok (.aload_n 0, 1) := by decide +kernel
theorem dX10_init_109 : decode cX10_init 109 = .ok (.iconst (-1), 1) := by decide +kernel
theorem dX10_init_110 : decode cX10_init 110 = .ok (.putfield 53, 3) := by decide +kernel
theorem dX10_init_113 : decode cX10_init 113 = .ok (.aload_n 0, 1) := by decide +kernel
theorem dX10_init_114 : decode cX10_init 114 = .ok (.iconst 4, 1) := by decide +kernel
theorem dX10_init_115 : decode cX10_init 115 = .ok (.newarray .boolean, 2) := by decide +kernel
theorem dX10_init_117 : decode cX10_init 117 = .ok (.putfield 56, 3) := by decide +kernel
theorem dX10_init_120 : decode cX10_init 120 = .ok (.aload_n 0, 1) := by decide +kernel
theorem dX10_init_121 : decode cX10_init 121 = .ok (.iconst 4, 1) := by decide +kernel
theorem dX10_init_122 : decode cX10_init 122 = .ok (.newarray .int, 2) := by decide +kernel
theorem dX10_init_124 : decode cX10_init 124 = .ok (.putfield 60, 3) := by decide +kernel
theorem dX10_init_127 : decode cX10_init 127 = .ok (.aload_n 0, 1) := by decide +kernel
theorem dX10_init_128 : decode cX10_init 128 = .ok (.iconst 4, 1) := by decide +kernel
theorem dX10_init_129 : decode cX10_init 129 = .ok (.newarray .int, 2) := by decide +kernel
theorem dX10_init_131 : decode cX10_init 131 = .ok (.putfield 63, 3) := by decide +kernel
theorem dX10_init_134 : decode cX10_init 134 = .ok (.aload_n 0, 1) := by decide +kernel
theorem dX10_init_135 : decode cX10_init 135 = .ok (.sipush 160, 3) := by decide +kernel
theorem dX10_init_138 : decode cX10_init 138 = .ok (.newarray .int, 2) := by decide +kernel
theorem dX10_init_140 : decode cX10_init 140 = .ok (.putfield 66, 3) := by decide +kernel
theorem dX10_init_143 : decode cX10_init 143 = .ok (.aload_n 0, 1) := by decide +kernel
theorem dX10_init_144 : decode cX10_init 144 = .ok (.iconst 0, 1) := by decide +kernel
theorem dX10_init_145 : decode cX10_init 145 = .ok (.bipush 104, 2) := by decide +kernel
theorem dX10_init_147 : decode cX10_init 147 = .ok (.bipush 101, 2) := by decide +kernel
theorem dX10_init_149 : decode cX10_init 149 = .ok (.bipush 97, 2) := by decide +kernel
theorem dX10_init_151 : decode cX10_init 151 = .ok (.bipush 116, 2) := by decide +kernel
theorem dX10_init_153 : decode cX10_init 153 = .ok (.bipush 115, 2) := by decide +kernel
theorem dX10_init_155 : decode cX10_init 155 = .ok (.bipush 32, 2) := by decide +kernel
theorem dX10_init_157 : decode cX10_init 157 = .ok (.bipush 55, 2) := by decide +kernel
theorem dX10_init_159 : decode cX10_init 159 = .ok (.bipush 32, 2) := by decide +kernel
theorem dX10_init_161 : decode cX10_init 161 = .ok (.invokevirtual 69, 3) := by decide +kernel
theorem dX10_init_164 : decode cX10_init 164 = .ok (.aload_n 0, 1) := by decide +kernel
theorem dX10_init_165 : decode cX10_init 165 = .ok (.bipush 8, 2) := by decide +kernel
theorem dX10_init_167 : decode cX10_init 167 = .ok (.bipush 59, 2) := by decide +kernel
theorem dX10_init_169 : decode cX10_init 169 = .ok (.bipush 32, 2) := by decide +kernel
theorem dX10_init_171 : decode cX10_init 171 = .ok (.bipush 99, 2) := by decide +kernel
theorem dX10_init_173 : decode cX10_init 173 = .ok (.bipush 97, 2) := by decide +kernel
theorem dX10_init_175 : decode cX10_init 175 = .ok (.bipush 108, 2) := by decide +kernel
theorem dX10_init_177 : decode cX10_init 177 = .ok (.bipush 109, 2) := by decide +kernel
theorem dX10_init_179 : decode cX10_init 179 = .ok (.bipush 115, 2) := by decide +kernel
theorem dX10_init_181 : decode cX10_init 181 = .ok (.bipush 32, 2) := by decide +kernel
theorem dX10_init_183 : decode cX10_init 183 = .ok (.invokevirtual 69, 3) := by decide +kernel
theorem dX10_init_186 : decode cX10_init 186 = .ok (.aload_n 0, 1) := by decide +kernel
theorem dX10_init_187 : decode cX10_init 187 = .ok (.bipush 16, 2) := by decide +kernel
theorem dX10_init_189 : decode cX10_init 189 = .ok (.bipush 116, 2) := by decide +kernel
theorem dX10_init_191 : decode cX10_init 191 = .ok (.bipush 104, 2) := by decide +kernel
theorem dX10_init_193 : decode cX10_init 193 = .ok (.bipush 105, 2) := by decide +kernel
theorem dX10_init_195 : decode cX10_init 195 = .ok (.bipush 110, 2) := by decide +kernel
theorem dX10_init_197 : decode cX10_init 197 = .ok (.bipush 103, 2) := by decide +kernel
theorem dX10_init_199 : decode cX10_init 199 = .ok (.bipush 32, 2) := by decide +kernel
theorem dX10_init_201 : decode cX10_init 201 = .ok (.bipush 59, 2) := by decide +kernel
theorem dX10_init_203 : decode cX10_init 203 = .ok (.bipush 32, 2) := by decide +kernel
theorem dX10_init_205 : decode cX10_init 205 = .ok (.invokevirtual 69, 3) := by decide +kernel
theorem dX10_init_208 : decode cX10_init 208 = .ok (.aload_n 0, 1) := by decide +kernel
theorem dX10_init_209 : decode cX10_init 209 = .ok (.bipush 24, 2) := by decide +kernel
theorem dX10_init_211 : decode cX10_init 211 = .ok (.bipush 102, 2) := by decide +kernel
theorem dX10_init_213 : decode cX10_init 213 = .ok (.bipush 101, 2) := by decide +kernel
theorem dX10_init_215 : decode cX10_init 215 = .ok (.bipush 101, 2) := by decide +kernel
theorem dX10_init_217 : decode cX10_init 217 = .ok (.bipush 108, 2) := by decide +kernel
theorem dX10_init_219 : decode cX10_init 219 = .ok (.bipush 115, 2) := by decide +kernel
theorem dX10_init_221 : decode cX10_init 221 = .ok (.bipush 32, 2) := by decide +kernel
theorem dX10_init_223 : decode cX10_init 223 = .ok (.bipush 116, 2) := by decide +kernel
theorem dX10_init_225 : decode cX10_init 225 = .ok (.bipush 104, 2) := by decide +kernel
theorem dX10_init_227 : decode cX10_init 227 = .ok (.invokevirtual 69, 3) := by decide +kernel
theorem dX10_init_230 : decode cX10_init 230 = .ok (.aload_n 0, 1) := by decide +kernel
theorem dX10_init_231 : decode cX10_init 231 = .ok (.bipush 32, 2) := by decide +kernel
theorem dX10_init_233 : decode cX10_init 233 = .ok (.bipush 105, 2) := by decide +kernel
theorem dX10_init_235 : decode cX10_init 235 = .ok (.bipush 110, 2) := by decide +kernel
theorem dX10_init_237 : decode cX10_init 237 = .ok (.bipush 103, 2) := by decide +kernel
theorem dX10_init_239 : decode cX10_init 239 = .ok (.bipush 32, 2) := by decide +kernel
theorem dX10_init_241 : decode cX10_init 241 = .ok (.bipush 42, 2) := by decide +kernel
theorem dX10_init_243 : decode cX10_init 243 = .ok (.bipush 32, 2) := by decide +kernel
theorem dX10_init_245 : decode cX10_init 245 = .ok (.bipush 51, 2) := by decide +kernel
theorem dX10_init_247 : decode cX10_init 247 = .ok (.bipush 32, 2) := by decide +kernel
theorem dX10_init_249 : decode cX10_init 249 = .ok (.invokevirtual 69, 3) := by decide +kernel
theorem dX10_init_252 : decode cX10_init 252 = .ok (.aload_n 0, 1) := by decide +kernel
theorem dX10_init_253 : decode cX10_init 253 = .ok (.bipush 40, 2) := by decide +kernel
theorem dX10_init_255 : decode cX10_init 255 = .ok (.bipush 59, 2) := by decide +kernel
theorem dX10_init_257 : decode cX10_init 257 = .ok (.bipush 32, 2) := by decide +kernel
theorem dX10_init_259 : decode cX10_init 259 = .ok (.bipush 32, 2) := by decide +kernel
theorem dX10_init_261 : decode cX10_init 261 = .ok (.bipush 32, 2) := by decide +kernel
theorem dX10_init_263 : decode cX10_init 263 = .ok (.bipush 32, 2) := by decide +kernel
theorem dX10_init_265 : decode cX10_init 265 = .ok (.bipush 32, 2) := by decide +kernel
theorem dX10_init_267 : decode cX10_init 267 = .ok (.bipush 32, 2) := by decide +kernel
theorem dX10_init_269 : decode cX10_init 269 = .ok (.bipush 32, 2) := by decide +kernel
theorem dX10_init_271 : decode cX10_init 271 = .ok (.invokevirtual 69, 3) := by decide +kernel
theorem dX10_init_274 : decode cX10_init 274 = .ok (.aload_n 0, 1) := by decide +kernel
theorem dX10_init_275 : decode cX10_init 275 = .ok (.getfield 17, 3) := by decide +kernel
theorem dX10_init_278 : decode cX10_init 278 = .ok (.iconst 0, 1) := by decide +kernel
theorem dX10_init_279 : decode cX10_init 279 = .ok (.bipush 48, 2) := by decide +kernel
theorem dX10_init_281 : decode cX10_init 281 = .ok (.iastore, 1) := by decide +kernel
theorem dX10_init_282 : decode cX10_init 282 = .ok (.aload_n 0, 1) := by decide +kernel
theorem dX10_init_283 : decode cX10_init 283 = .ok (.iconst 1, 1) := by decide +kernel
theorem dX10_init_284 : decode cX10_init 284 = .ok (.putfield 73, 3) := by decide +kernel
theorem dX10_init_287 : decode cX10_init 287 = .ok (.return_, 1) := by decide +kernel
theorem dX10_spell_0 : decode cX10_spell 0 = .ok (.aload_n 0, 1) := by decide +kernel
theorem dX10_spell_1 : decode cX10_spell 1 = .ok (.getfield 13, 3) := by decide +kernel
theorem dX10_spell_4 : decode cX10_spell 4 = .ok (.iload_n 1, 1) := by decide +kernel
theorem dX10_spell_5 : decode cX10_spell 5 = .ok (.iload_n 2, 1) := by decide +kernel
theorem dX10_spell_6 : decode cX10_spell 6 = .ok (.iastore, 1) := by decide +kernel
theorem dX10_spell_7 : decode cX10_spell 7 = .ok (.aload_n 0, 1) := by decide +kernel
theorem dX10_spell_8 : decode cX10_spell 8 = .ok (.getfield 13, 3) := by decide +kernel
theorem dX10_spell_11 : decode cX10_spell 11 = .ok (.iload_n 1, 1) := by decide +kernel
theorem dX10_spell_12 : decode cX10_spell 12 = .ok (.iconst 1, 1) := by decide +kernel
theorem dX10_spell_13 : decode cX10_spell 13 = .ok (.iadd, 1) := by decide +kernel
theorem dX10_spell_14 : decode cX10_spell 14 = .ok (.iload_n 3, 1) := by decide +kernel
theorem dX10_spell_15 : decode cX10_spell 15 = .ok (.iastore, 1) := by decide +kernel
theorem dX10_spell_16 : decode cX10_spell 16 = .ok (.aload_n 0, 1) := by decide +kernel
theorem dX10_spell_17 : decode cX10_spell 17 = .ok (.getfield 13, 3) := by decide +kernel
theorem dX10_spell_20 : decode cX10_spell 20 = .ok (.iload_n 1, 1) := by decide +kernel
theorem dX10_spell_21 : decode cX10_spell 21 = .ok (.iconst 2, 1) := by decide +kernel
theorem dX10_spell_22 : decode cX10_spell 22 = .ok (.iadd, 1) := by decide +kernel
theorem dX10_spell_23 : decode cX10_spell 23 = .ok (.iload 4, 2) := by decide +kernel
theorem dX10_spell_25 : decode cX10_spell 25 = .ok (.iastore, 1) := by decide +kernel
theorem dX10_spell_26 : decode cX10_spell 26 = .ok (.aload_n 0, 1) := by decide +kernel
theorem dX10_spell_27 : decode cX10_spell 27 = .ok (.getfield 13, 3) := by decide +kernel
theorem dX10_spell_30 : decode cX10_spell 30 = .ok (.iload_n 1, 1) := by decide +kernel
theorem dX10_spell_31 : decode cX10_spell 31 = .ok (.iconst 3, 1) := by decide +kernel
theorem dX10_spell_32 : decode cX10_spell 32 = .ok (.iadd, 1) := by decide +kernel
theorem dX10_spell_33 : decode cX10_spell 33 = .ok (.iload 5, 2) := by decide +kernel
theorem dX10_spell_35 : decode cX10_spell 35 = .ok (.iastore, 1) := by decide +kernel
theorem dX10_spell_36 : decode cX10_spell 36 = .ok (.aload_n 0, 1) := by decide +kernel
theorem dX10_spell_37 : decode cX10_spell 37 = .ok (.getfield 13, 3) := by decide +kernel
theorem dX10_spell_40 : decode cX10_spell 40 = .ok (.iload_n 1, 1) := by decide +kernel
theorem dX10_spell_41 : decode cX10_spell 41 = .ok (.iconst 4, 1) := by decide +kernel
theorem dX10_spell_42 : decode cX10_spell 42 = .ok (.iadd, 1) := by decide +kernel
theorem dX10_spell_43 : decode cX10_spell 43 = .ok (.iload 6, 2) := by decide +kernel
theorem dX10_spell_45 : decode cX10_spell 45 = .ok (.iastore, 1) := by decide +kernel
theorem dX10_spell_46 : decode cX10_spell 46 = .ok (.aload_n 0, 1) := by decide +kernel
theorem dX10_spell_47 : decode cX10_spell 47 = .ok (.getfield 13, 3) := by decide +kernel
theorem dX10_spell_50 : decode cX10_spell 50 = .ok (.iload_n 1, 1) := by decide +kernel
theorem dX10_spell_51 : decode cX10_spell 51 = .ok (.iconst 5, 1) := by decide +kernel
theorem dX10_spell_52 : decode cX10_spell 52 = .ok (.iadd, 1) := by decide +kernel
theorem dX10_spell_53 : decode cX10_spell 53 = .ok (.iload 7, 2) := by decide +kernel
theorem dX10_spell_55 : decode cX10_spell 55 = .ok (.iastore, 1) := by decide +kernel
theorem dX10_spell_56 : decode cX10_spell 56 = .ok (.aload_n 0, 1) := by decide +kernel
theorem dX10_spell_57 : decode cX10_spell 57 = .ok (.getfield 13, 3) := by decide +kernel
theorem dX10_spell_60 : decode cX10_spell 60 = .ok (.iload_n 1, 1) := by decide +kernel
theorem dX10_spell_61 : decode cX10_spell 61 = .ok (.bipush 6, 2) := by decide +kernel
theorem dX10_spell_63 : decode cX10_spell 63 = .ok (.iadd, 1) := by decide +kernel
theorem dX10_spell_64 : decode cX10_spell 64 = .ok (.iload 8, 2) := by decide +kernel
theorem dX10_spell_66 : decode cX10_spell 66 = .ok (.iastore, 1) := by decide +kernel
theorem dX10_spell_67 : decode cX10_spell 67 = .ok (.aload_n 0, 1) := by decide +kernel
theorem dX10_spell_68 : decode cX10_spell 68 = .ok (.getfield 13, 3) := by decide +kernel
theorem dX10_spell_71 : decode cX10_spell 71 = .ok (.iload_n 1, 1) := by decide +kernel
theorem dX10_spell_72 : decode cX10_spell 72 = .ok (.bipush 7, 2) := by decide +kernel
theorem dX10_spell_74 : decode cX10_spell 74 = .ok (.iadd, 1) := by decide +kernel
theorem dX10_spell_75 : decode cX10_spell 75 = .ok (.iload 9, 2) := by decide +kernel
theorem dX10_spell_77 : decode cX10_spell 77 = .ok (.iastore, 1) := by decide +kernel
theorem dX10_spell_78 : decode cX10_spell 78 = .ok (.return_, 1) := by decide +kernel
theorem dX10_isOne_0 : decode cX10_isOne 0 = .ok (.iload_n 1, 1) := by decide +kernel
theorem dX10_isOne_1 : decode cX10_isOne 1 = .ok (.i2l, 1) := by decide +kernel
theorem dX10_isOne_2 : decode cX10_isOne 2 = .ok (.lconst 0, 1) := by decide +kernel
theorem dX10_isOne_3 : decode cX10_isOne 3 = .ok (.aload_n 0, 1) := by decide +kernel
theorem dX10_isOne_4 : decode cX10_isOne 4 = .ok (.getfield 76, 3) := by decide +kernel
theorem dX10_isOne_7 : decode cX10_isOne 7 = .ok (.iconst 1, 1) := by decide +kernel
theorem dX10_isOne_8 : decode cX10_isOne 8 = .ok (.isub, 1) := by decide +kernel
theorem dX10_isOne_9 : decode cX10_isOne 9 = .ok (.i2l, 1) := by decide +kernel
theorem dX10_isOne_10 : decode cX10_isOne 10 = .ok (.invokestatic 79, 3) := by decide +kernel
theorem dX10_isOne_13 : decode cX10_isOne 13 = .ok (.ireturn, 1) := by decide +kernel
theorem dX10_mostOf_0 : decode cX10_mostOf 0 = .ok (.iload_n 0, 1) := by decide +kernel
theorem dX10_mostOf_1 : decode cX10_mostOf 1 = .ok (.ifCond .ne 9, 3) := by decide +kernel
theorem dX10_mostOf_4 : decode cX10_mostOf 4 = .ok (.sipush 999, 3) := by decide +kernel
theorem dX10_mostOf_7 : decode cX10_mostOf 7 = .ok (.goto 25, 3) := by decide +kernel
theorem dX10_mostOf_10 : decode cX10_mostOf 10 = .ok (.iload_n 0, 1) := by decide +kernel
theorem dX10_mostOf_11 : decode cX10_mostOf 11 = .ok (.iconst 2, 1) := by decide +kernel
theorem dX10_mostOf_12 : decode cX10_mostOf 12 = .ok (.if_icmp .ne 8, 3) := by decide +kernel
theorem dX10_mostOf_15 : decode cX10_mostOf 15 = .ok (.bipush 9, 2) := by decide +kernel
theorem dX10_mostOf_17 : decode cX10_mostOf 17 = .ok (.goto 15, 3) := by decide +kernel
theorem dX10_mostOf_20 : decode cX10_mostOf 20 = .ok (.iload_n 0, 1) := by decide +kernel
theorem dX10_mostOf_21 : decode cX10_mostOf 21 = .ok (.iconst 3, 1) := by decide +kernel
theorem dX10_mostOf_22 : decode cX10_mostOf 22 = .ok (.if_icmp .ne 8, 3) := by decide +kernel
theorem dX10_mostOf_25 : decode cX10_mostOf 25 = .ok (.bipush 15, 2) := by decide +kernel
theorem dX10_mostOf_27 : decode cX10_mostOf 27 = .ok (.goto 5, 3) := by decide +kernel
theorem dX10_mostOf_30 : decode cX10_mostOf 30 = .ok (.bipush 99, 2) := by decide +kernel
theorem dX10_mostOf_32 : decode cX10_mostOf 32 = .ok (.ireturn, 1) := by decide +kernel
theorem dX10_set_0 : decode cX10_set 0 = .ok (.iload_n 1, 1) := by decide +kernel
theorem dX10_set_1 : decode cX10_set 1 = .ok (.i2l, 1) := by decide +kernel
theorem dX10_set_2 : decode cX10_set 2 = .ok (.lconst 0, 1) := by decide +kernel
theorem dX10_set_3 : decode cX10_set 3 = .ok (.ldc2_w 83, 3) := by decide +kernel
theorem dX10_set_6 : decode cX10_set 6 = .ok (.invokestatic 79, 3) := by decide +kernel
theorem dX10_set_9 : decode cX10_set 9 = .ok (.ifCond .eq 30, 3) := by decide +kernel
theorem dX10_set_12 : decode cX10_set 12 = .ok (.iload_n 1, 1) := by decide +kernel
theorem dX10_set_13 : decode cX10_set 13 = .ok (.iconst 1, 1) := by decide +kernel
theorem dX10_set_14 : decode cX10_set 14 = .ok (.if_icmp .le 11, 3) := by decide +kernel
theorem dX10_set_17 : decode cX10_set 17 = .ok (.aload_n 0, 1) := by decide +kernel
theorem dX10_set_18 : decode cX10_set 18 = .ok (.iload_n 2, 1) := by decide +kernel
theorem dX10_set_19 : decode cX10_set 19 = .ok (.invokevirtual 85, 3) := by decide +kernel
theorem dX10_set_22 : decode cX10_set 22 = .ok (.ifCond .eq 17, 3) := by decide +kernel
theorem dX10_set_25 : decode cX10_set 25 = .ok (.iload_n 3, 1) := by decide +kernel
theorem dX10_set_26 : decode cX10_set 26 = .ok (.i2l, 1) := by decide +kernel
theorem dX10_set_27 : decode cX10_set 27 = .ok (.lconst 0, 1) := by decide +kernel
theorem dX10_set_28 : decode cX10_set 28 = .ok (.iload_n 1, 1) := by decide +kernel
theorem dX10_set_29 : decode cX10_set 29 = .ok (.invokestatic 89, 3) := by decide +kernel
theorem dX10_set_32 : decode cX10_set 32 = .ok (.i2l, 1) := by decide +kernel
theorem dX10_set_33 : decode cX10_set 33 = .ok (.invokestatic 79, 3) := by decide +kernel
theorem dX10_set_36 : decode cX10_set 36 = .ok (.ifCond .ne 6, 3) := by decide +kernel
theorem dX10_set_39 : decode cX10_set 39 = .ok (.bipush (-2), 2) := by decide +kernel
theorem dX10_set_41 : decode cX10_set 41 = .ok (.ireturn, 1) := by decide +kernel
theorem dX10_set_42 : decode cX10_set 42 = .ok (.aload_n 0, 1) := by decide +kernel
theorem dX10_set_43 : decode cX10_set 43 = .ok (.iload_n 2, 1) := by decide +kernel
theorem dX10_set_44 : decode cX10_set 44 = .ok (.iload_n 1, 1) := by decide +kernel
theorem dX10_set_45 : decode cX10_set 45 = .ok (.invokevirtual 93, 3) := by decide +kernel
theorem dX10_set_48 : decode cX10_set 48 = .ok (.istore 4, 2) := by decide +kernel
theorem dX10_set_50 : decode cX10_set 50 = .ok (.aload_n 0, 1) := by decide +kernel
theorem dX10_set_51 : decode cX10_set 51 = .ok (.iload_n 1, 1) := by decide +kernel
theorem dX10_set_52 : decode cX10_set 52 = .ok (.iload_n 2, 1) := by decide +kernel
theorem dX10_set_53 : decode cX10_set 53 = .ok (.iload_n 3, 1) := by decide +kernel
theorem dX10_set_54 : decode cX10_set 54 = .ok (.invokevirtual 97, 3) := by decide +kernel
theorem dX10_set_57 : decode cX10_set 57 = .ok (.iload 4, 2) := by decide +kernel
theorem dX10_set_59 : decode cX10_set 59 = .ok (.ireturn, 1) := by decide +kernel
theorem dX10_lays_0 : decode cX10_lays 0 = .ok (.iload_n 1, 1) := by decide +kernel
theorem dX10_lays_1 : decode cX10_lays 1 = .ok (.ifCond .ne 11, 3) := by decide +kernel
theorem dX10_lays_4 : decode cX10_lays 4 = .ok (.aload_n 0, 1) := by decide +kernel
theorem dX10_lays_5 : decode cX10_lays 5 = .ok (.iload_n 3, 1) := by decide +kernel
theorem dX10_lays_6 : decode cX10_lays 6 = .ok (.putfield 101, 3) := by decide +kernel
theorem dX10_lays_9 : decode cX10_lays 9 = .ok (.goto 57, 3) := by decide +kernel
theorem dX10_lays_12 : decode cX10_lays 12 = .ok (.iload_n 1, 1) := by decide +kernel
theorem dX10_lays_13 : decode cX10_lays 13 = .ok (.iconst 1, 1) := by decide +kernel
theorem dX10_lays_14 : decode cX10_lays 14 = .ok (.if_icmp .ne 11, 3) := by decide +kernel
theorem dX10_lays_17 : decode cX10_lays 17 = .ok (.aload_n 0, 1) := by decide +kernel
theorem dX10_lays_18 : decode cX10_lays 18 = .ok (.iload_n 3, 1) := by decide +kernel
theorem dX10_lays_19 : decode cX10_lays 19 = .ok (.putfield 23, 3) := by decide +kernel
theorem dX10_lays_22 : decode cX10_lays 22 = .ok (.goto 44, 3) := by decide +kernel
theorem dX10_lays_25 : decode cX10_lays 25 = .ok (.iload_n 1, 1) := by decide +kernel
theorem dX10_lays_26 : decode cX10_lays 26 = .ok (.iconst 5, 1) := by decide +kernel
theorem dX10_lays_27 : decode cX10_lays 27 = .ok (.if_icmp .ge 19, 3) := by decide +kernel
theorem dX10_lays_30 : decode cX10_lays 30 = .ok (.aload_n 0, 1) := by decide +kernel
theorem dX10_lays_31 : decode cX10_lays 31 = .ok (.getfield 29, 3) := by decide +kernel
theorem dX10_lays_34 : decode cX10_lays 34 = .ok (.iconst 3, 1) := by decide +kernel
theorem dX10_lays_35 : decode cX10_lays 35 = .ok (.iload_n 2, 1) := by decide +kernel
theorem dX10_lays_36 : decode cX10_lays 36 = .ok (.imul, 1) := by decide +kernel
theorem dX10_lays_37 : decode cX10_lays 37 = .ok (.iload_n 1, 1) := by decide +kernel
theorem dX10_lays_38 : decode cX10_lays 38 = .ok (.iadd, 1) := by decide +kernel
theorem dX10_lays_39 : decode cX10_lays 39 = .ok (.iconst 2, 1) := by decide +kernel
theorem dX10_lays_40 : decode cX10_lays 40 = .ok (.isub, 1) := by decide +kernel
theorem dX10_lays_41 : decode cX10_lays 41 = .ok (.iload_n 3, 1) := by decide +kernel
theorem dX10_lays_42 : decode cX10_lays 42 = .ok (.iastore, 1) := by decide +kernel
theorem dX10_lays_43 : decode cX10_lays 43 = .ok (.goto 23, 3) := by decide +kernel
theorem dX10_lays_46 : decode cX10_lays 46 = .ok (.iload_n 1, 1) := by decide +kernel
theorem dX10_lays_47 : decode cX10_lays 47 = .ok (.iconst 5, 1) := by decide +kernel
theorem dX10_lays_48 : decode cX10_lays 48 = .ok (.if_icmp .ne 13, 3) := by decide +kernel
theorem dX10_lays_51 : decode cX10_lays 51 = .ok (.aload_n 0, 1) := by decide +kernel
theorem dX10_lays_52 : decode cX10_lays 52 = .ok (.getfield 26, 3) := by decide +kernel
theorem dX10_lays_55 : decode cX10_lays 55 = .ok (.iload_n 2, 1) := by decide +kernel
theorem dX10_lays_56 : decode cX10_lays 56 = .ok (.iload_n 3, 1) := by decide +kernel
theorem dX10_lays_57 : decode cX10_lays 57 = .ok (.iastore, 1) := by decide +kernel
theorem dX10_lays_58 : decode cX10_lays 58 = .ok (.goto 8, 3) := by decide +kernel
theorem dX10_lays_61 : decode cX10_lays 61 = .ok (.aload_n 0, 1) := by decide +kernel
theorem dX10_lays_62 : decode cX10_lays 62 = .ok (.iload_n 3, 1) := by decide +kernel
theorem dX10_lays_63 : decode cX10_lays 63 = .ok (.putfield 104, 3) := by decide +kernel
theorem dX10_lays_66 : decode cX10_lays 66 = .ok (.return_, 1) := by decide +kernel
theorem dX10_groom_0 : decode cX10_groom 0 = .ok (.iload_n 1, 1) := by decide +kernel
theorem dX10_groom_1 : decode cX10_groom 1 = .ok (.i2l, 1) := by decide +kernel
theorem dX10_groom_2 : decode cX10_groom 2 = .ok (.lconst 0, 1) := by decide +kernel
theorem dX10_groom_3 : decode cX10_groom 3 = .ok (.ldc2_w 107, 3) := by decide +kernel
theorem dX10_groom_6 : decode cX10_groom 6 = .ok (.invokestatic 79, 3) := by decide +kernel
theorem dX10_groom_9 : decode cX10_groom 9 = .ok (.ifCond .eq 27, 3) := by decide +kernel
theorem dX10_groom_12 : decode cX10_groom 12 = .ok (.iload_n 2, 1) := by decide +kernel
theorem dX10_groom_13 : decode cX10_groom 13 = .ok (.i2l, 1) := by decide +kernel
theorem dX10_groom_14 : decode cX10_groom 14 = .ok (.lconst 0, 1) := by decide +kernel
theorem dX10_groom_15 : decode cX10_groom 15 = .ok (.ldc2_w 109, 3) := by decide +kernel
theorem dX10_groom_18 : decode cX10_groom 18 = .ok (.invokestatic 79, 3) := by decide +kernel
theorem dX10_groom_21 : decode cX10_groom 21 = .ok (.ifCond .eq 15, 3) := by decide +kernel
theorem dX10_groom_24 : decode cX10_groom 24 = .ok (.iload_n 3, 1) := by decide +kernel
theorem dX10_groom_25 : decode cX10_groom 25 = .ok (.i2l, 1) := by decide +kernel
theorem dX10_groom_26 : decode cX10_groom 26 = .ok (.lconst 0, 1) := by decide +kernel
theorem dX10_groom_27 : decode cX10_groom 27 = .ok (.ldc2_w 111, 3) := by decide +kernel
theorem dX10_groom_30 : decode cX10_groom 30 = .ok (.invokestatic 79, 3) := by decide +kernel
theorem dX10_groom_33 : decode cX10_groom 33 = .ok (.ifCond .ne 6, 3) := by decide +kernel
theorem dX10_groom_36 : decode cX10_groom 36 = .ok (.bipush (-2), 2) := by decide +kernel
theorem dX10_groom_38 : decode cX10_groom 38 = .ok (.ireturn, 1) := by decide +kernel
theorem dX10_groom_39 : decode cX10_groom 39 = .ok (.aload_n 0, 1) := by decide +kernel
theorem dX10_groom_40 : decode cX10_groom 40 = .ok (.getfield 76, 3) := by decide +kernel
theorem dX10_groom_43 : decode cX10_groom 43 = .ok (.bipush 6, 2) := by decide +kernel
theorem dX10_groom_45 : decode cX10_groom 45 = .ok (.if_icmp .ne 6, 3) := by decide +kernel
theorem dX10_groom_48 : decode cX10_groom 48 = .ok (.bipush (-4), 2) := by decide +kernel
theorem dX10_groom_50 : decode cX10_groom 50 = .ok (.ireturn, 1) := by decide +kernel
theorem dX10_groom_51 : decode cX10_groom 51 = .ok (.aload_n 0, 1) := by decide +kernel
theorem dX10_groom_52 : decode cX10_groom 52 = .ok (.getfield 26, 3) := by decide +kernel
theorem dX10_groom_55 : decode cX10_groom 55 = .ok (.aload_n 0, 1) := by decide +kernel
theorem dX10_groom_56 : decode cX10_groom 56 = .ok (.getfield 76, 3) := by decide +kernel
theorem dX10_groom_59 : decode cX10_groom 59 = .ok (.iload_n 1, 1) := by decide +kernel
theorem dX10_groom_60 : decode cX10_groom 60 = .ok (.iastore, 1) := by decide +kernel
theorem dX10_groom_61 : decode cX10_groom 61 = .ok (.aload_n 0, 1) := by decide +kernel
theorem dX10_groom_62 : decode cX10_groom 62 = .ok (.getfield 29, 3) := by decide +kernel
theorem dX10_groom_65 : decode cX10_groom 65 = .ok (.iconst 3, 1) := by decide +kernel
theorem dX10_groom_66 : decode cX10_groom 66 = .ok (.aload_n 0, 1) := by decide +kernel
theorem dX10_groom_67 : decode cX10_groom 67 = .ok (.getfield 76, 3) := by decide +kernel
theorem dX10_groom_70 : decode cX10_groom 70 = .ok (.imul, 1) := by decide +kernel
theorem dX10_groom_71 : decode cX10_groom 71 = .ok (.iload_n 2, 1) := by decide +kernel
theorem dX10_groom_72 : decode cX10_groom 72 = .ok (.iastore, 1) := by decide +kernel
theorem dX10_groom_73 : decode cX10_groom 73 = .ok (.aload_n 0, 1) := by decide +kernel
theorem dX10_groom_74 : decode cX10_groom 74 = .ok (.getfield 29, 3) := by decide +kernel
theorem dX10_groom_77 : decode cX10_groom 77 = .ok (.iconst 3, 1) := by decide +kernel
theorem dX10_groom_78 : decode cX10_groom 78 = .ok (.aload_n 0, 1) := by decide +kernel
theorem dX10_groom_79 : decode cX10_groom 79 = .ok (.getfield 76, 3) := by decide +kernel
theorem dX10_groom_82 : decode cX10_groom 82 = .ok (.imul, 1) := by decide +kernel
theorem dX10_groom_83 : decode cX10_groom 83 = .ok (.iconst 1, 1) := by decide +kernel
theorem dX10_groom_84 : decode cX10_groom 84 = .ok (.iadd, 1) := by decide +kernel
theorem dX10_groom_85 : decode cX10_groom 85 = .ok (.iload_n 3, 1) := by decide +kernel
theorem dX10_groom_86 : decode cX10_groom 86 = .ok (.iastore, 1) := by decide +kernel
theorem dX10_groom_87 : decode cX10_groom 87 = .ok (.aload_n 0, 1) := by decide +kernel
theorem dX10_groom_88 : decode cX10_groom 88 = .ok (.getfield 29, 3) := by decide +kernel
theorem dX10_groom_91 : decode cX10_groom 91 = .ok (.iconst 3, 1) := by decide +kernel
theorem dX10_groom_92 : decode cX10_groom 92 = .ok (.aload_n 0, 1) := by decide +kernel
theorem dX10_groom_93 : decode cX10_groom 93 = .ok (.getfield 76, 3) := by decide +kernel
theorem dX10_groom_96 : decode cX10_groom 96 = .ok (.imul, 1) := by decide +kernel
theorem dX10_groom_97 : decode cX10_groom 97 = .ok (.iconst 2, 1) := by decide +kernel
theorem dX10_groom_98 : decode cX10_groom 98 = .ok (.iadd, 1) := by decide +kernel
theorem dX10_groom_99 : decode cX10_groom 99 = .ok (.bipush 20, 2) := by decide +kernel
theorem dX10_groom_101 : decode cX10_groom 101 = .ok (.iastore, 1) := by decide +kernel
theorem dX10_groom_102 : decode cX10_groom 102 = .ok (.aload_n 0, 1) := by decide +kernel
theorem dX10_groom_103 : decode cX10_groom 103 = .ok (.getfield 32, 3) := by decide +kernel
theorem dX10_groom_106 : decode cX10_groom 106 = .ok (.aload_n 0, 1) := by decide +kernel
theorem dX10_groom_107 : decode cX10_groom 107 = .ok (.getfield 76, 3) := by decide +kernel
theorem dX10_groom_110 : decode cX10_groom 110 = .ok (.aload_n 0, 1) := by decide +kernel
theorem dX10_groom_111 : decode cX10_groom 111 = .ok (.getfield 76, 3) := by decide +kernel
theorem dX10_groom_114 : decode cX10_groom 114 = .ok (.iastore, 1) := by decide +kernel
theorem dX10_groom_115 : decode cX10_groom 115 = .ok (.aload_n 0, 1) := by decide +kernel
theorem dX10_groom_116 : decode cX10_groom 116 = .ok (.dup, 1) := by decide +kernel
theorem dX10_groom_117 : decode cX10_groom 117 = .ok (.getfield 76, 3) := by decide +kernel
theorem dX10_groom_120 : decode cX10_groom 120 = .ok (.iconst 1, 1) := by decide +kernel
theorem dX10_groom_121 : decode cX10_groom 121 = .ok (.iadd, 1) := by decide +kernel
theorem dX10_groom_122 : decode cX10_groom 122 = .ok (.putfield 76, 3) := by decide +kernel
theorem dX10_groom_125 : decode cX10_groom 125 = .ok (.aload_n 0, 1) := by decide +kernel
theorem dX10_groom_126 : decode cX10_groom 126 = .ok (.getfield 76, 3) := by decide +kernel
theorem dX10_groom_129 : decode cX10_groom 129 = .ok (.iconst 1, 1) := by decide +kernel
theorem dX10_groom_130 : decode cX10_groom 130 = .ok (.isub, 1) := by decide +kernel
theorem dX10_groom_131 : decode cX10_groom 131 = .ok (.ireturn, 1) := by decide +kernel
theorem dX10_swaps_0 : decode cX10_swaps 0 = .ok (.aload_n 0, 1) := by decide +kernel
theorem dX10_swaps_1 : decode cX10_swaps 1 = .ok (.getfield 32, 3) := by decide +kernel
theorem dX10_swaps_4 : decode cX10_swaps 4 = .ok (.iload_n 1, 1) := by decide +kernel
theorem dX10_swaps_5 : decode cX10_swaps 5 = .ok (.iaload, 1) := by decide +kernel
theorem dX10_swaps_6 : decode cX10_swaps 6 = .ok (.istore_n 3, 1) := by decide +kernel
theorem dX10_swaps_7 : decode cX10_swaps 7 = .ok (.aload_n 0, 1) := by decide +kernel
theorem dX10_swaps_8 : decode cX10_swaps 8 = .ok (.getfield 32, 3) := by decide +kernel
theorem dX10_swaps_11 : decode cX10_swaps 11 = .ok (.iload_n 1, 1) := by decide +kernel
theorem dX10_swaps_12 : decode cX10_swaps 12 = .ok (.aload_n 0, 1) := by decide +kernel
theorem dX10_swaps_13 : decode cX10_swaps 13 = .ok (.getfield 32, 3) := by decide +kernel
theorem dX10_swaps_16 : decode cX10_swaps 16 = .ok (.iload_n 2, 1) := by decide +kernel
theorem dX10_swaps_17 : decode cX10_swaps 17 = .ok (.iaload, 1) := by decide +kernel
theorem dX10_swaps_18 : decode cX10_swaps 18 = .ok (.iastore, 1) := by decide +kernel
theorem dX10_swaps_19 : decode cX10_swaps 19 = .ok (.aload_n 0, 1) := by decide +kernel
theorem dX10_swaps_20 : decode cX10_swaps 20 = .ok (.getfield 32, 3) := by decide +kernel
theorem dX10_swaps_23 : decode cX10_swaps 23 = .ok (.iload_n 2, 1) := by decide +kernel
theorem dX10_swaps_24 : decode cX10_swaps 24 = .ok (.iload_n 3, 1) := by decide +kernel
theorem dX10_swaps_25 : decode cX10_swaps 25 = .ok (.iastore, 1) := by decide +kernel
theorem dX10_swaps_26 : decode cX10_swaps 26 = .ok (.return_, 1) := by decide +kernel
theorem dX10_change_0 : decode cX10_change 0 = .ok (.aload_n 0, 1) := by decide +kernel
theorem dX10_change_1 : decode cX10_change 1 = .ok (.iload_n 1, 1) := by decide +kernel
theorem dX10_change_2 : decode cX10_change 2 = .ok (.invokevirtual 85, 3) := by decide +kernel
theorem dX10_change_5 : decode cX10_change 5 = .ok (.ifCond .eq 16, 3) := by decide +kernel
theorem dX10_change_8 : decode cX10_change 8 = .ok (.aload_n 0, 1) := by decide +kernel
theorem dX10_change_9 : decode cX10_change 9 = .ok (.iload_n 2, 1) := by decide +kernel
theorem dX10_change_10 : decode cX10_change 10 = .ok (.invokevirtual 85, 3) := by decide +kernel
theorem dX10_change_13 : decode cX10_change 13 = .ok (.ifCond .eq 8, 3) := by decide +kernel
theorem dX10_change_16 : decode cX10_change 16 = .ok (.iload_n 1, 1) := by decide +kernel
theorem dX10_change_17 : decode cX10_change 17 = .ok (.iload_n 2, 1) := by decide +kernel
theorem dX10_change_18 : decode cX10_change 18 = .ok (.if_icmp .ne 6, 3) := by decide +kernel
theorem dX10_change_21 : decode cX10_change 21 = .ok (.bipush (-2), 2) := by decide +kernel
theorem dX10_change_23 : decode cX10_change 23 = .ok (.ireturn, 1) := by decide +kernel
theorem dX10_change_24 : decode cX10_change 24 = .ok (.aload_n 0, 1) := by decide +kernel
theorem dX10_change_25 : decode cX10_change 25 = .ok (.iload_n 1, 1) := by decide +kernel
theorem dX10_change_26 : decode cX10_change 26 = .ok (.iload_n 2, 1) := by decide +kernel
theorem dX10_change_27 : decode cX10_change 27 = .ok (.invokevirtual 113, 3) := by decide +kernel
theorem dX10_change_30 : decode cX10_change 30 = .ok (.aload_n 0, 1) := by decide +kernel
theorem dX10_change_31 : decode cX10_change 31 = .ok (.getfield 32, 3) := by decide +kernel
theorem dX10_change_34 : decode cX10_change 34 = .ok (.iload_n 1, 1) := by decide +kernel
theorem dX10_change_35 : decode cX10_change 35 = .ok (.iaload, 1) := by decide +kernel
theorem dX10_change_36 : decode cX10_change 36 = .ok (.ireturn, 1) := by decide +kernel
theorem dX10_told_0 : decode cX10_told 0 = .ok (.iload_n 2, 1) := by decide +kernel
theorem dX10_told_1 : decode cX10_told 1 = .ok (.i2l, 1) := by decide +kernel
theorem dX10_told_2 : decode cX10_told 2 = .ok (.lconst 0, 1) := by decide +kernel
theorem dX10_told_3 : decode cX10_told 3 = .ok (.ldc2_w 117, 3) := by decide +kernel
theorem dX10_told_6 : decode cX10_told 6 = .ok (.invokestatic 79, 3) := by decide +kernel
theorem dX10_told_9 : decode cX10_told 9 = .ok (.ifCond .eq 16, 3) := by decide +kernel
theorem dX10_told_12 : decode cX10_told 12 = .ok (.iload_n 2, 1) := by decide +kernel
theorem dX10_told_13 : decode cX10_told 13 = .ok (.iconst 1, 1) := by decide +kernel
theorem dX10_told_14 : decode cX10_told 14 = .ok (.if_icmp .le 14, 3) := by decide +kernel
theorem dX10_told_17 : decode cX10_told 17 = .ok (.aload_n 0, 1) := by decide +kernel
theorem dX10_told_18 : decode cX10_told 18 = .ok (.iload_n 1, 1) := by decide +kernel
theorem dX10_told_19 : decode cX10_told 19 = .ok (.invokevirtual 85, 3) := by decide +kernel
theorem dX10_told_22 : decode cX10_told 22 = .ok (.ifCond .ne 6, 3) := by decide +kernel
theorem dX10_told_25 : decode cX10_told 25 = .ok (.bipush (-2), 2) := by decide +kernel
theorem dX10_told_27 : decode cX10_told 27 = .ok (.ireturn, 1) := by decide +kernel
theorem dX10_told_28 : decode cX10_told 28 = .ok (.iload_n 2, 1) := by decide +kernel
theorem dX10_told_29 : decode cX10_told 29 = .ok (.iconst 5, 1) := by decide +kernel
theorem dX10_told_30 : decode cX10_told 30 = .ok (.if_icmp .ge 39, 3) := by decide +kernel
theorem dX10_told_33 : decode cX10_told 33 = .ok (.iload_n 2, 1) := by decide +kernel
theorem dX10_told_34 : decode cX10_told 34 = .ok (.ifCond .ne 10, 3) := by decide +kernel
theorem dX10_told_37 : decode cX10_told 37 = .ok (.aload_n 0, 1) := by decide +kernel
theorem dX10_told_38 : decode cX10_told 38 = .ok (.getfield 101, 3) := by decide +kernel
theorem dX10_told_41 : decode cX10_told 41 = .ok (.goto 27, 3) := by decide +kernel
theorem dX10_told_44 : decode cX10_told 44 = .ok (.iload_n 2, 1) := by decide +kernel
theorem dX10_told_45 : decode cX10_told 45 = .ok (.iconst 1, 1) := by decide +kernel
theorem dX10_told_46 : decode cX10_told 46 = .ok (.if_icmp .ne 10, 3) := by decide +kernel
theorem dX10_told_49 : decode cX10_told 49 = .ok (.aload_n 0, 1) := by decide +kernel
theorem dX10_told_50 : decode cX10_told 50 = .ok (.getfield 23, 3) := by decide +kernel
theorem dX10_told_53 : decode cX10_told 53 = .ok (.goto 15, 3) := by decide +kernel
theorem dX10_told_56 : decode cX10_told 56 = .ok (.aload_n 0, 1) := by decide +kernel
theorem dX10_told_57 : decode cX10_told 57 = .ok (.getfield 29, 3) := by decide +kernel
theorem dX10_told_60 : decode cX10_told 60 = .ok (.iconst 3, 1) := by decide +kernel
theorem dX10_told_61 : decode cX10_told 61 = .ok (.iload_n 1, 1) := by decide +kernel
theorem dX10_told_62 : decode cX10_told 62 = .ok (.imul, 1) := by decide +kernel
theorem dX10_told_63 : decode cX10_told 63 = .ok (.iload_n 2, 1) := by decide +kernel
theorem dX10_told_64 : decode cX10_told 64 = .ok (.iadd, 1) := by decide +kernel
theorem dX10_told_65 : decode cX10_told 65 = .ok (.iconst 2, 1) := by decide +kernel
theorem dX10_told_66 : decode cX10_told 66 = .ok (.isub, 1) := by decide +kernel
theorem dX10_told_67 : decode cX10_told 67 = .ok (.iaload, 1) := by decide +kernel
theorem dX10_told_68 : decode cX10_told 68 = .ok (.ireturn, 1) := by decide +kernel
theorem dX10_told_69 : decode cX10_told 69 = .ok (.iload_n 2, 1) := by decide +kernel
theorem dX10_told_70 : decode cX10_told 70 = .ok (.bipush 8, 2) := by decide +kernel
theorem dX10_told_72 : decode cX10_told 72 = .ok (.if_icmp .ge 43, 3) := by decide +kernel
theorem dX10_told_75 : decode cX10_told 75 = .ok (.iload_n 2, 1) := by decide +kernel
theorem dX10_told_76 : decode cX10_told 76 = .ok (.iconst 5, 1) := by decide +kernel
theorem dX10_told_77 : decode cX10_told 77 = .ok (.if_icmp .ne 12, 3) := by decide +kernel
theorem dX10_told_80 : decode cX10_told 80 = .ok (.aload_n 0, 1) := by decide +kernel
theorem dX10_told_81 : decode cX10_told 81 = .ok (.getfield 26, 3) := by decide +kernel
theorem dX10_told_84 : decode cX10_told 84 = .ok (.iload_n 1, 1) := by decide +kernel
theorem dX10_told_85 : decode cX10_told 85 = .ok (.iaload, 1) := by decide +kernel
theorem dX10_told_86 : decode cX10_told 86 = .ok (.goto 28, 3) := by decide +kernel
theorem dX10_told_89 : decode cX10_told 89 = .ok (.iload_n 2, 1) := by decide +kernel
theorem dX10_told_90 : decode cX10_told 90 = .ok (.bipush 6, 2) := by decide +kernel
theorem dX10_told_92 : decode cX10_told 92 = .ok (.if_icmp .ne 12, 3) := by decide +kernel
theorem dX10_told_95 : decode cX10_told 95 = .ok (.aload_n 0, 1) := by decide +kernel
theorem dX10_told_96 : decode cX10_told 96 = .ok (.getfield 32, 3) := by decide +kernel
theorem dX10_told_99 : decode cX10_told 99 = .ok (.iload_n 1, 1) := by decide +kernel
theorem dX10_told_100 : decode cX10_told 100 = .ok (.iaload, 1) := by decide +kernel
theorem dX10_told_101 : decode cX10_told 101 = .ok (.goto 13, 3) := by decide +kernel
theorem dX10_told_104 : decode cX10_told 104 = .ok (.aload_n 0, 1) := by decide +kernel
theorem dX10_told_105 : decode cX10_told 105 = .ok (.aload_n 0, 1) := by decide +kernel
theorem dX10_told_106 : decode cX10_told 106 = .ok (.getfield 32, 3) := by decide +kernel
theorem dX10_told_109 : decode cX10_told 109 = .ok (.iload_n 1, 1) := by decide +kernel
theorem dX10_told_110 : decode cX10_told 110 = .ok (.iaload, 1) := by decide +kernel
theorem dX10_told_111 : decode cX10_told 111 = .ok (.invokevirtual 119, 3) := by decide +kernel
theorem dX10_told_114 : decode cX10_told 114 = .ok (.ireturn, 1) := by decide +kernel
theorem dX10_told_115 : decode cX10_told 115 = .ok (.aload_n 0, 1) := by decide +kernel
theorem dX10_told_116 : decode cX10_told 116 = .ok (.getfield 32, 3) := by decide +kernel
theorem dX10_told_119 : decode cX10_told 119 = .ok (.iload_n 1, 1) := by decide +kernel
theorem dX10_told_120 : decode cX10_told 120 = .ok (.iaload, 1) := by decide +kernel
theorem dX10_told_121 : decode cX10_told 121 = .ok (.istore_n 3, 1) := by decide +kernel
theorem dX10_told_122 : decode cX10_told 122 = .ok (.iload_n 2, 1) := by decide +kernel
theorem dX10_told_123 : decode cX10_told 123 = .ok (.bipush 8, 2) := by decide +kernel
theorem dX10_told_125 : decode cX10_told 125 = .ok (.if_icmp .ne 22, 3) := by decide +kernel
theorem dX10_told_128 : decode cX10_told 128 = .ok (.aload_n 0, 1) := by decide +kernel
theorem dX10_told_129 : decode cX10_told 129 = .ok (.iload_n 1, 1) := by decide +kernel
theorem dX10_told_130 : decode cX10_told 130 = .ok (.iload_n 3, 1) := by decide +kernel
theorem dX10_told_131 : decode cX10_told 131 = .ok (.aload_n 0, 1) := by decide +kernel
theorem dX10_told_132 : decode cX10_told 132 = .ok (.getfield 29, 3) := by decide +kernel
theorem dX10_told_135 : decode cX10_told 135 = .ok (.iconst 3, 1) := by decide +kernel
theorem dX10_told_136 : decode cX10_told 136 = .ok (.iload_n 1, 1) := by decide +kernel
theorem dX10_told_137 : decode cX10_told 137 = .ok (.imul, 1) := by decide +kernel
theorem dX10_told_138 : decode cX10_told 138 = .ok (.iconst 2, 1) := by decide +kernel
theorem dX10_told_139 : decode cX10_told 139 = .ok (.iadd, 1) := by decide +kernel
theorem dX10_told_140 : decode cX10_told 140 = .ok (.iaload, 1) := by decide +kernel
theorem dX10_told_141 : decode cX10_told 141 = .ok (.invokevirtual 122, 3) := by decide +kernel
theorem dX10_told_144 : decode cX10_told 144 = .ok (.goto 34, 3) := by decide +kernel
theorem dX10_told_147 : decode cX10_told 147 = .ok (.iload_n 2, 1) := by decide +kernel
theorem dX10_told_148 : decode cX10_told 148 = .ok (.bipush 9, 2) := by decide +kernel
theorem dX10_told_150 : decode cX10_told 150 = .ok (.if_icmp .ne 22, 3) := by decide +kernel
theorem dX10_told_153 : decode cX10_told 153 = .ok (.aload_n 0, 1) := by decide +kernel
theorem dX10_told_154 : decode cX10_told 154 = .ok (.iload_n 1, 1) := by decide +kernel
theorem dX10_told_155 : decode cX10_told 155 = .ok (.iload_n 3, 1) := by decide +kernel
theorem dX10_told_156 : decode cX10_told 156 = .ok (.aload_n 0, 1) := by decide +kernel
theorem dX10_told_157 : decode cX10_told 157 = .ok (.getfield 29, 3) := by decide +kernel
theorem dX10_told_160 : decode cX10_told 160 = .ok (.iconst 3, 1) := by decide +kernel
theorem dX10_told_161 : decode cX10_told 161 = .ok (.iload_n 1, 1) := by decide +kernel
theorem dX10_told_162 : decode cX10_told 162 = .ok (.imul, 1) := by decide +kernel
theorem dX10_told_163 : decode cX10_told 163 = .ok (.iconst 2, 1) := by decide +kernel
theorem dX10_told_164 : decode cX10_told 164 = .ok (.iadd, 1) := by decide +kernel
theorem dX10_told_165 : decode cX10_told 165 = .ok (.iaload, 1) := by decide +kernel
theorem dX10_told_166 : decode cX10_told 166 = .ok (.invokevirtual 126, 3) := by decide +kernel
theorem dX10_told_169 : decode cX10_told 169 = .ok (.goto 9, 3) := by decide +kernel
theorem dX10_told_172 : decode cX10_told 172 = .ok (.aload_n 0, 1) := by decide +kernel
theorem dX10_told_173 : decode cX10_told 173 = .ok (.iload_n 1, 1) := by decide +kernel
theorem dX10_told_174 : decode cX10_told 174 = .ok (.iload_n 3, 1) := by decide +kernel
theorem dX10_told_175 : decode cX10_told 175 = .ok (.invokevirtual 129, 3) := by decide +kernel
theorem dX10_told_178 : decode cX10_told 178 = .ok (.ireturn, 1) := by decide +kernel
theorem dX10_thingOf_0 : decode cX10_thingOf 0 = .ok (.aload_n 0, 1) := by decide +kernel
theorem dX10_thingOf_1 : decode cX10_thingOf 1 = .ok (.getfield 29, 3) := by decide +kernel
theorem dX10_thingOf_4 : decode cX10_thingOf 4 = .ok (.iconst 3, 1) := by decide +kernel
theorem dX10_thingOf_5 : decode cX10_thingOf 5 = .ok (.iload_n 1, 1) := by decide +kernel
theorem dX10_thingOf_6 : decode cX10_thingOf 6 = .ok (.imul, 1) := by decide +kernel
theorem dX10_thingOf_7 : decode cX10_thingOf 7 = .ok (.iconst 1, 1) := by decide +kernel
theorem dX10_thingOf_8 : decode cX10_thingOf 8 = .ok (.iadd, 1) := by decide +kernel
theorem dX10_thingOf_9 : decode cX10_thingOf 9 = .ok (.iaload, 1) := by decide +kernel
theorem dX10_thingOf_10 : decode cX10_thingOf 10 = .ok (.ireturn, 1) := by decide +kernel
theorem dX10_feed_0 : decode cX10_feed 0 = .ok (.iload_n 1, 1) := by decide +kernel
theorem dX10_feed_1 : decode cX10_feed 1 = .ok (.i2l, 1) := by decide +kernel
theorem dX10_feed_2 : decode cX10_feed 2 = .ok (.lconst 0, 1) := by decide +kernel
theorem dX10_feed_3 : decode cX10_feed 3 = .ok (.ldc2_w 132, 3) := by decide +kernel
theorem dX10_feed_6 : decode cX10_feed 6 = .ok (.invokestatic 79, 3) := by decide +kernel
theorem dX10_feed_9 : decode cX10_feed 9 = .ok (.ifCond .ne 6, 3) := by decide +kernel
theorem dX10_feed_12 : decode cX10_feed 12 = .ok (.bipush (-2), 2) := by decide +kernel
theorem dX10_feed_14 : decode cX10_feed 14 = .ok (.ireturn, 1) := by decide +kernel
theorem dX10_feed_15 : decode cX10_feed 15 = .ok (.aload_n 0, 1) := by decide +kernel
theorem dX10_feed_16 : decode cX10_feed 16 = .ok (.getfield 134, 3) := by decide +kernel
theorem dX10_feed_19 : decode cX10_feed 19 = .ok (.sipush 160, 3) := by decide +kernel
theorem dX10_feed_22 : decode cX10_feed 22 = .ok (.if_icmp .ne 6, 3) := by decide +kernel
theorem dX10_feed_25 : decode cX10_feed 25 = .ok (.bipush (-4), 2) := by decide +kernel
theorem dX10_feed_27 : decode cX10_feed 27 = .ok (.ireturn, 1) := by decide +kernel
theorem dX10_feed_28 : decode cX10_feed 28 = .ok (.aload_n 0, 1) := by decide +kernel
theorem dX10_feed_29 : decode cX10_feed 29 = .ok (.getfield 20, 3) := by decide +kernel
theorem dX10_feed_32 : decode cX10_feed 32 = .ok (.aload_n 0, 1) := by decide +kernel
theorem dX10_feed_33 : decode cX10_feed 33 = .ok (.getfield 134, 3) := by decide +kernel
theorem dX10_feed_36 : decode cX10_feed 36 = .ok (.iload_n 1, 1) := by decide +kernel
theorem dX10_feed_37 : decode cX10_feed 37 = .ok (.iastore, 1) := by decide +kernel
theorem dX10_feed_38 : decode cX10_feed 38 = .ok (.aload_n 0, 1) := by decide +kernel
theorem dX10_feed_39 : decode cX10_feed 39 = .ok (.dup, 1) := by decide +kernel
theorem dX10_feed_40 : decode cX10_feed 40 = .ok (.getfield 134, 3) := by decide +kernel
theorem dX10_feed_43 : decode cX10_feed 43 = .ok (.iconst 1, 1) := by decide +kernel
theorem dX10_feed_44 : decode cX10_feed 44 = .ok (.iadd, 1) := by decide +kernel
theorem dX10_feed_45 : decode cX10_feed 45 = .ok (.putfield 134, 3) := by decide +kernel
theorem dX10_feed_48 : decode cX10_feed 48 = .ok (.aload_n 0, 1) := by decide +kernel
theorem dX10_feed_49 : decode cX10_feed 49 = .ok (.getfield 134, 3) := by decide +kernel
theorem dX10_feed_52 : decode cX10_feed 52 = .ok (.ireturn, 1) := by decide +kernel
theorem dX10_byteAt_0 : decode cX10_byteAt 0 = .ok (.iload_n 1, 1) := by decide +kernel
theorem dX10_byteAt_1 : decode cX10_byteAt 1 = .ok (.aload_n 0, 1) := by decide +kernel
theorem dX10_byteAt_2 : decode cX10_byteAt 2 = .ok (.getfield 137, 3) := by decide +kernel
theorem dX10_byteAt_5 : decode cX10_byteAt 5 = .ok (.if_icmp .ge 17, 3) := by decide +kernel
theorem dX10_byteAt_8 : decode cX10_byteAt 8 = .ok (.aload_n 0, 1) := by decide +kernel
theorem dX10_byteAt_9 : decode cX10_byteAt 9 = .ok (.getfield 13, 3) := by decide +kernel
theorem dX10_byteAt_12 : decode cX10_byteAt 12 = .ok (.aload_n 0, 1) := by decide +kernel
theorem dX10_byteAt_13 : decode cX10_byteAt 13 = .ok (.getfield 140, 3) := by decide +kernel
theorem dX10_byteAt_16 : decode cX10_byteAt 16 = .ok (.iload_n 1, 1) := by decide +kernel
theorem dX10_byteAt_17 : decode cX10_byteAt 17 = .ok (.iadd, 1) := by decide +kernel
theorem dX10_byteAt_18 : decode cX10_byteAt 18 = .ok (.iaload, 1) := by decide +kernel
theorem dX10_byteAt_19 : decode cX10_byteAt 19 = .ok (.goto 4, 3) := by decide +kernel
theorem dX10_byteAt_22 : decode cX10_byteAt 22 = .ok (.iconst (-1), 1) := by decide +kernel
theorem dX10_byteAt_23 : decode cX10_byteAt 23 = .ok (.ireturn, 1) := by decide +kernel
theorem dX10_next_0 : decode cX10_next 0 = .ok (.aload_n 0, 1) := by decide +kernel
theorem dX10_next_1 : decode cX10_next 1 = .ok (.aload_n 0, 1) := by decide +kernel
theorem dX10_next_2 : decode cX10_next 2 = .ok (.getfield 143, 3) := by decide +kernel
theorem dX10_next_5 : decode cX10_next 5 = .ok (.invokevirtual 146, 3) := by decide +kernel
theorem dX10_next_8 : decode cX10_next 8 = .ok (.bipush 32, 2) := by decide +kernel
theorem dX10_next_10 : decode cX10_next 10 = .ok (.if_icmp .eq 16, 3) := by decide +kernel
theorem dX10_next_13 : decode cX10_next 13 = .ok (.aload_n 0, 1) := by decide +kernel
theorem dX10_next_14 : decode cX10_next 14 = .ok (.aload_n 0, 1) := by decide +kernel
theorem dX10_next_15 : decode cX10_next 15 = .ok (.getfield 143, 3) := by decide +kernel
theorem dX10_next_18 : decode cX10_next 18 = .ok (.invokevirtual 146, 3) := by decide +kernel
theorem dX10_next_21 : decode cX10_next 21 = .ok (.bipush 10, 2) := by decide +kernel
theorem dX10_next_23 : decode cX10_next 23 = .ok (.if_icmp .ne 16, 3) := by decide +kernel
theorem dX10_next_26 : decode cX10_next 26 = .ok (.aload_n 0, 1) := by decide +kernel
theorem dX10_next_27 : decode cX10_next 27 = .ok (.dup, 1) := by decide +kernel
theorem dX10_next_28 : decode cX10_next 28 = .ok (.getfield 143, 3) := by decide +kernel
theorem dX10_next_31 : decode cX10_next 31 = .ok (.iconst 1, 1) := by decide +kernel
theorem dX10_next_32 : decode cX10_next 32 = .ok (.iadd, 1) := by decide +kernel
theorem dX10_next_33 : decode cX10_next 33 = .ok (.putfield 143, 3) := by decide +kernel
theorem dX10_next_36 : decode cX10_next 36 = .ok (.goto (-36), 3) := by decide +kernel
theorem dX10_next_39 : decode cX10_next 39 = .ok (.aload_n 0, 1) := by decide +kernel
theorem dX10_next_40 : decode cX10_next 40 = .ok (.aload_n 0, 1) := by decide +kernel
theorem dX10_next_41 : decode cX10_next 41 = .ok (.getfield 143, 3) := by decide +kernel
theorem dX10_next_44 : decode cX10_next 44 = .ok (.putfield 149, 3) := by decide +kernel
theorem dX10_next_47 : decode cX10_next 47 = .ok (.aload_n 0, 1) := by decide +kernel
theorem dX10_next_48 : decode cX10_next 48 = .ok (.aload_n 0, 1) := by decide +kernel
theorem dX10_next_49 : decode cX10_next 49 = .ok (.getfield 143, 3) := by decide +kernel
theorem dX10_next_52 : decode cX10_next 52 = .ok (.invokevirtual 146, 3) := by decide +kernel
theorem dX10_next_55 : decode cX10_next 55 = .ok (.istore_n 1, 1) := by decide +kernel
theorem dX10_next_56 : decode cX10_next 56 = .ok (.aload_n 0, 1) := by decide +kernel
theorem dX10_next_57 : decode cX10_next 57 = .ok (.iconst 4, 1) := by decide +kernel
theorem dX10_next_58 : decode cX10_next 58 = .ok (.putfield 152, 3) := by decide +kernel
theorem dX10_next_61 : decode cX10_next 61 = .ok (.iload_n 1, 1) := by decide +kernel
theorem dX10_next_62 : decode cX10_next 62 = .ok (.ifCond .ge 19, 3) := by decide +kernel
theorem dX10_next_65 : decode cX10_next 65 = .ok (.aload_n 0, 1) := by decide +kernel
theorem dX10_next_66 : decode cX10_next 66 = .ok (.iconst 0, 1) := by decide +kernel
theorem dX10_next_67 : decode cX10_next 67 = .ok (.putfield 152, 3) := by decide +kernel
theorem dX10_next_70 : decode cX10_next 70 = .ok (.aload_n 0, 1) := by decide +kernel
theorem dX10_next_71 : decode cX10_next 71 = .ok (.aload_n 0, 1) := by decide +kernel
theorem dX10_next_72 : decode cX10_next 72 = .ok (.getfield 137, 3) := by decide +kernel
theorem dX10_next_75 : decode cX10_next 75 = .ok (.putfield 149, 3) := by decide +kernel
theorem dX10_next_78 : decode cX10_next 78 = .ok (.goto 243, 3) := by decide +kernel
theorem dX10_next_81 : decode cX10_next 81 = .ok (.iload_n 1, 1) := by decide +kernel
theorem dX10_next_82 : decode cX10_next 82 = .ok (.i2l, 1) := by decide +kernel
theorem dX10_next_83 : decode cX10_next 83 = .ok (.ldc2_w 155, 3) := by decide +kernel
theorem dX10_next_86 : decode cX10_next 86 = .ok (.ldc2_w 157, 3) := by decide +kernel
theorem dX10_next_89 : decode cX10_next 89 = .ok (.invokestatic 79, 3) := by decide +kernel
theorem dX10_next_92 : decode cX10_next 92 = .ok (.ifCond .eq 42, 3) := by decide +kernel
theorem dX10_next_95 : decode cX10_next 95 = .ok (.aload_n 0, 1) := by decide +kernel
theorem dX10_next_96 : decode cX10_next 96 = .ok (.iconst 1, 1) := by decide +kernel
theorem dX10_next_97 : decode cX10_next 97 = .ok (.putfield 152, 3) := by decide +kernel
theorem dX10_next_100 : decode cX10_next 100 = .ok (.aload_n 0, 1) := by decide +kernel
theorem dX10_next_101 : decode cX10_next 101 = .ok (.aload_n 0, 1) := by decide +kernel
theorem dX10_next_102 : decode cX10_next 102 = .ok (.getfield 143, 3) := by decide +kernel
theorem dX10_next_105 : decode cX10_next 105 = .ok (.invokevirtual 146, 3) := by decide +kernel
theorem dX10_next_108 : decode cX10_next 108 = .ok (.i2l, 1) := by decide +kernel
theorem dX10_next_109 : decode cX10_next 109 = .ok (.ldc2_w 155, 3) := by decide +kernel
theorem dX10_next_112 : decode cX10_next 112 = .ok (.ldc2_w 157, 3) := by decide +kernel
theorem dX10_next_115 : decode cX10_next 115 = .ok (.invokestatic 79, 3) := by decide +kernel
theorem dX10_next_118 : decode cX10_next 118 = .ok (.ifCond .eq 203, 3) := by decide +kernel
theorem dX10_next_121 : decode cX10_next 121 = .ok (.aload_n 0, 1) := by decide +kernel
theorem dX10_next_122 : decode cX10_next 122 = .ok (.dup, 1) := by decide +kernel
theorem dX10_next_123 : decode cX10_next 123 = .ok (.getfield 143, 3) := by decide +kernel
theorem dX10_next_126 : decode cX10_next 126 = .ok (.iconst 1, 1) := by decide +kernel
theorem dX10_next_127 : decode cX10_next 127 = .ok (.iadd, 1) := by decide +kernel
theorem dX10_next_128 : decode cX10_next 128 = .ok (.putfield 143, 3) := by decide +kernel
theorem dX10_next_131 : decode cX10_next 131 = .ok (.goto (-31), 3) := by decide +kernel
theorem dX10_next_134 : decode cX10_next 134 = .ok (.iload_n 1, 1) := by decide +kernel
theorem dX10_next_135 : decode cX10_next 135 = .ok (.i2l, 1) := by decide +kernel
theorem dX10_next_136 : decode cX10_next 136 = .ok (.ldc2_w 159, 3) := by decide +kernel
theorem dX10_next_139 : decode cX10_next 139 = .ok (.ldc2_w 161, 3) := by decide +kernel
theorem dX10_next_142 : decode cX10_next 142 = .ok (.invokestatic 79, 3) := by decide +kernel
theorem dX10_next_145 : decode cX10_next 145 = .ok (.ifCond .eq 107, 3) := by decide +kernel
theorem dX10_next_148 : decode cX10_next 148 = .ok (.aload_n 0, 1) := by decide +kernel
theorem dX10_next_149 : decode cX10_next 149 = .ok (.iconst 2, 1) := by decide +kernel
theorem dX10_next_150 : decode cX10_next 150 = .ok (.putfield 152, 3) := by decide +kernel
theorem dX10_next_153 : decode cX10_next 153 = .ok (.aload_n 0, 1) := by decide +kernel
theorem dX10_next_154 : decode cX10_next 154 = .ok (.lconst 0, 1) := by decide +kernel
theorem dX10_next_155 : decode cX10_next 155 = .ok (.putfield 163, 3) := by decide +kernel
theorem dX10_next_158 : decode cX10_next 158 = .ok (.iconst 0, 1) := by decide +kernel
theorem dX10_next_159 : decode cX10_next 159 = .ok (.istore_n 2, 1) := by decide +kernel
theorem dX10_next_160 : decode cX10_next 160 = .ok (.aload_n 0, 1) := by decide +kernel
theorem dX10_next_161 : decode cX10_next 161 = .ok (.aload_n 0, 1) := by decide +kernel
theorem dX10_next_162 : decode cX10_next 162 = .ok (.getfield 143, 3) := by decide +kernel
theorem dX10_next_165 : decode cX10_next 165 = .ok (.invokevirtual 146, 3) := by decide +kernel
theorem dX10_next_168 : decode cX10_next 168 = .ok (.i2l, 1) := by decide +kernel
theorem dX10_next_169 : decode cX10_next 169 = .ok (.ldc2_w 159, 3) := by decide +kernel
theorem dX10_next_172 : decode cX10_next 172 = .ok (.ldc2_w 161, 3) := by decide +kernel
theorem dX10_next_175 : decode cX10_next 175 = .ok (.invokestatic 79, 3) := by decide +kernel
theorem dX10_next_178 : decode cX10_next 178 = .ok (.ifCond .eq 57, 3) := by decide +kernel
theorem dX10_next_181 : decode cX10_next 181 = .ok (.aload_n 0, 1) := by decide +kernel
theorem dX10_next_182 : decode cX10_next 182 = .ok (.iload_n 2, 1) := by decide +kernel
theorem dX10_next_183 : decode cX10_next 183 = .ok (.iconst 4, 1) := by decide +kernel
theorem dX10_next_184 : decode cX10_next 184 = .ok (.if_icmp .ge 28, 3) := by decide +kernel
theorem dX10_next_187 : decode cX10_next 187 = .ok (.ldc2_w 117, 3) := by decide +kernel
theorem dX10_next_190 : decode cX10_next 190 = .ok (.aload_n 0, 1) := by decide +kernel
theorem dX10_next_191 : decode cX10_next 191 = .ok (.getfield 163, 3) := by decide +kernel
theorem dX10_next_194 : decode cX10_next 194 = .ok (.lmul, 1) := by decide +kernel
theorem dX10_next_195 : decode cX10_next 195 = .ok (.aload_n 0, 1) := by decide +kernel
theorem dX10_next_196 : decode cX10_next 196 = .ok (.aload_n 0, 1) := by decide +kernel
theorem dX10_next_197 : decode cX10_next 197 = .ok (.getfield 143, 3) := by decide +kernel
theorem dX10_next_200 : decode cX10_next 200 = .ok (.invokevirtual 146, 3) := by decide +kernel
theorem dX10_next_203 : decode cX10_next 203 = .ok (.i2l, 1) := by decide +kernel
theorem dX10_next_204 : decode cX10_next 204 = .ok (.ladd, 1) := by decide +kernel
theorem dX10_next_205 : decode cX10_next 205 = .ok (.ldc2_w 159, 3) := by decide +kernel
theorem dX10_next_208 : decode cX10_next 208 = .ok (.lsub, 1) := by decide +kernel
theorem dX10_next_209 : decode cX10_next 209 = .ok (.goto 7, 3) := by decide +kernel
theorem dX10_next_212 : decode cX10_next 212 = .ok (.aload_n 0, 1) := by decide +kernel
theorem dX10_next_213 : decode cX10_next 213 = .ok (.getfield 163, 3) := by decide +kernel
theorem dX10_next_216 : decode cX10_next 216 = .ok (.putfield 163, 3) := by decide +kernel
theorem dX10_next_219 : decode cX10_next 219 = .ok (.iinc 2 1, 3) := by decide +kernel
theorem dX10_next_222 : decode cX10_next 222 = .ok (.aload_n 0, 1) := by decide +kernel
theorem dX10_next_223 : decode cX10_next 223 = .ok (.dup, 1) := by decide +kernel
theorem dX10_next_224 : decode cX10_next 224 = .ok (.getfield 143, 3) := by decide +kernel
theorem dX10_next_227 : decode cX10_next 227 = .ok (.iconst 1, 1) := by decide +kernel
theorem dX10_next_228 : decode cX10_next 228 = .ok (.iadd, 1) := by decide +kernel
theorem dX10_next_229 : decode cX10_next 229 = .ok (.putfield 143, 3) := by decide +kernel
theorem dX10_next_232 : decode cX10_next 232 = .ok (.goto (-72), 3) := by decide +kernel
theorem dX10_next_235 : decode cX10_next 235 = .ok (.aload_n 0, 1) := by decide +kernel
theorem dX10_next_236 : decode cX10_next 236 = .ok (.iload_n 2, 1) := by decide +kernel
theorem dX10_next_237 : decode cX10_next 237 = .ok (.iconst 4, 1) := by decide +kernel
theorem dX10_next_238 : decode cX10_next 238 = .ok (.if_icmp .le 7, 3) := by decide +kernel
theorem dX10_next_241 : decode cX10_next 241 = .ok (.iconst 4, 1) := by decide +kernel
theorem dX10_next_242 : decode cX10_next 242 = .ok (.goto 4, 3) := by decide +kernel
theorem dX10_next_245 : decode cX10_next 245 = .ok (.iconst 2, 1) := by decide +kernel
theorem dX10_next_246 : decode cX10_next 246 = .ok (.putfield 152, 3) := by decide +kernel
theorem dX10_next_249 : decode cX10_next 249 = .ok (.goto 72, 3) := by decide +kernel
theorem dX10_next_252 : decode cX10_next 252 = .ok (.iload_n 1, 1) := by decide +kernel
theorem dX10_next_253 : decode cX10_next 253 = .ok (.bipush 40, 2) := by decide +kernel
theorem dX10_next_255 : decode cX10_next 255 = .ok (.if_icmp .eq 45, 3) := by decide +kernel
theorem dX10_next_258 : decode cX10_next 258 = .ok (.iload_n 1, 1) := by decide +kernel
theorem dX10_next_259 : decode cX10_next 259 = .ok (.bipush 41, 2) := by decide +kernel
theorem dX10_next_261 : decode cX10_next 261 = .ok (.if_icmp .eq 39, 3) := by decide +kernel
theorem dX10_next_264 : decode cX10_next 264 = .ok (.iload_n 1, 1) := by decide +kernel
theorem dX10_next_265 : decode cX10_next 265 = .ok (.bipush 59, 2) := by decide +kernel
theorem dX10_next_267 : decode cX10_next 267 = .ok (.if_icmp .eq 33, 3) := by decide +kernel
theorem dX10_next_270 : decode cX10_next 270 = .ok (.iload_n 1, 1) := by decide +kernel
theorem dX10_next_271 : decode cX10_next 271 = .ok (.bipush 43, 2) := by decide +kernel
theorem dX10_next_273 : decode cX10_next 273 = .ok (.if_icmp .eq 27, 3) := by decide +kernel
theorem dX10_next_276 : decode cX10_next 276 = .ok (.iload_n 1, 1) := by decide +kernel
theorem dX10_next_277 : decode cX10_next 277 = .ok (.bipush 45, 2) := by decide +kernel
theorem dX10_next_279 : decode cX10_next 279 = .ok (.if_icmp .eq 21, 3) := by decide +kernel
theorem dX10_next_282 : decode cX10_next 282 = .ok (.iload_n 1, 1) := by decide +kernel
theorem dX10_next_283 : decode cX10_next 283 = .ok (.bipush 42, 2) := by decide +kernel
theorem dX10_next_285 : decode cX10_next 285 = .ok (.if_icmp .eq 15, 3) := by decide +kernel
theorem dX10_next_288 : decode cX10_next 288 = .ok (.iload_n 1, 1) := by decide +kernel
theorem dX10_next_289 : decode cX10_next 289 = .ok (.bipush 60, 2) := by decide +kernel
theorem dX10_next_291 : decode cX10_next 291 = .ok (.if_icmp .eq 9, 3) := by decide +kernel
theorem dX10_next_294 : decode cX10_next 294 = .ok (.iload_n 1, 1) := by decide +kernel
theorem dX10_next_295 : decode cX10_next 295 = .ok (.bipush 61, 2) := by decide +kernel
theorem dX10_next_297 : decode cX10_next 297 = .ok (.if_icmp .ne 24, 3) := by decide +kernel
theorem dX10_next_300 : decode cX10_next 300 = .ok (.aload_n 0, 1) := by decide +kernel
theorem dX10_next_301 : decode cX10_next 301 = .ok (.iconst 3, 1) := by decide +kernel
theorem dX10_next_302 : decode cX10_next 302 = .ok (.putfield 152, 3) := by decide +kernel
theorem dX10_next_305 : decode cX10_next 305 = .ok (.aload_n 0, 1) := by decide +kernel
theorem dX10_next_306 : decode cX10_next 306 = .ok (.iload_n 1, 1) := by decide +kernel
theorem dX10_next_307 : decode cX10_next 307 = .ok (.i2l, 1) := by decide +kernel
theorem dX10_next_308 : decode cX10_next 308 = .ok (.putfield 163, 3) := by decide +kernel
theorem dX10_next_311 : decode cX10_next 311 = .ok (.aload_n 0, 1) := by decide +kernel
theorem dX10_next_312 : decode cX10_next 312 = .ok (.dup, 1) := by decide +kernel
theorem dX10_next_313 : decode cX10_next 313 = .ok (.getfield 143, 3) := by decide +kernel
theorem dX10_next_316 : decode cX10_next 316 = .ok (.iconst 1, 1) := by decide +kernel
theorem dX10_next_317 : decode cX10_next 317 = .ok (.iadd, 1) := by decide +kernel
theorem dX10_next_318 : decode cX10_next 318 = .ok (.putfield 143, 3) := by decide +kernel
theorem dX10_next_321 : decode cX10_next 321 = .ok (.return_, 1) := by decide +kernel
theorem dX10_fail_0 : decode cX10_fail 0 = .ok (.aload_n 0, 1) := by decide +kernel
theorem dX10_fail_1 : decode cX10_fail 1 = .ok (.getfield 167, 3) := by decide +kernel
theorem dX10_fail_4 : decode cX10_fail 4 = .ok (.ifCond .ne 16, 3) := by decide +kernel
theorem dX10_fail_7 : decode cX10_fail 7 = .ok (.aload_n 0, 1) := by decide +kernel
theorem dX10_fail_8 : decode cX10_fail 8 = .ok (.iconst 1, 1) := by decide +kernel
theorem dX10_fail_9 : decode cX10_fail 9 = .ok (.putfield 167, 3) := by decide +kernel
theorem dX10_fail_12 : decode cX10_fail 12 = .ok (.aload_n 0, 1) := by decide +kernel
theorem dX10_fail_13 : decode cX10_fail 13 = .ok (.aload_n 0, 1) := by decide +kernel
theorem dX10_fail_14 : decode cX10_fail 14 = .ok (.getfield 149, 3) := by decide +kernel
theorem dX10_fail_17 : decode cX10_fail 17 = .ok (.putfield 171, 3) := by decide +kernel
theorem dX10_fail_20 : decode cX10_fail 20 = .ok (.return_, 1) := by decide +kernel
theorem dX10_isLetter_0 : decode cX10_isLetter 0 = .ok (.aload_n 0, 1) := by decide +kernel
theorem dX10_isLetter_1 : decode cX10_isLetter 1 = .ok (.getfield 149, 3) := by decide +kernel
theorem dX10_isLetter_4 : decode cX10_isLetter 4 = .ok (.iload_n 1, 1) := by decide +kernel
theorem dX10_isLetter_5 : decode cX10_isLetter 5 = .ok (.iadd, 1) := by decide +kernel
theorem dX10_isLetter_6 : decode cX10_isLetter 6 = .ok (.aload_n 0, 1) := by decide +kernel
theorem dX10_isLetter_7 : decode cX10_isLetter 7 = .ok (.getfield 143, 3) := by decide +kernel
theorem dX10_isLetter_10 : decode cX10_isLetter 10 = .ok (.if_icmp .ge 25, 3) := by decide +kernel
theorem dX10_isLetter_13 : decode cX10_isLetter 13 = .ok (.aload_n 0, 1) := by decide +kernel
theorem dX10_isLetter_14 : decode cX10_isLetter 14 = .ok (.aload_n 0, 1) := by decide +kernel
theorem dX10_isLetter_15 : decode cX10_isLetter 15 = .ok (.getfield 149, 3) := by decide +kernel
theorem dX10_isLetter_18 : decode cX10_isLetter 18 = .ok (.iload_n 1, 1) := by decide +kernel
theorem dX10_isLetter_19 : decode cX10_isLetter 19 = .ok (.iadd, 1) := by decide +kernel
theorem dX10_isLetter_20 : decode cX10_isLetter 20 = .ok (.invokevirtual 146, 3) := by decide +kernel
theorem dX10_isLetter_23 : decode cX10_isLetter 23 = .ok (.iload_n 2, 1) := by decide +kernel
theorem dX10_isLetter_24 : decode cX10_isLetter 24 = .ok (.if_icmp .ne 7, 3) := by decide +kernel
theorem dX10_isLetter_27 : decode cX10_isLetter 27 = .ok (.iconst 1, 1) := by decide +kernel
theorem dX10_isLetter_28 : decode cX10_isLetter 28 = .ok (.goto 16, 3) := by decide +kernel
theorem dX10_isLetter_31 : decode cX10_isLetter 31 = .ok (.iconst 0, 1) := by decide +kernel
theorem dX10_isLetter_32 : decode cX10_isLetter 32 = .ok (.goto 12, 3) := by decide +kernel
theorem dX10_isLetter_35 : decode cX10_isLetter 35 = .ok (.iload_n 2, 1) := by decide +kernel
theorem dX10_isLetter_36 : decode cX10_isLetter 36 = .ok (.ifCond .ne 7, 3) := by decide +kernel
theorem dX10_isLetter_39 : decode cX10_isLetter 39 = .ok (.iconst 1, 1) := by decide +kernel
theorem dX10_isLetter_40 : decode cX10_isLetter 40 = .ok (.goto 4, 3) := by decide +kernel
theorem dX10_isLetter_43 : decode cX10_isLetter 43 = .ok (.iconst 0, 1) := by decide +kernel
theorem dX10_isLetter_44 : decode cX10_isLetter 44 = .ok (.ireturn, 1) := by decide +kernel
theorem dX10_isWord_0 : decode cX10_isWord 0 = .ok (.aload_n 0, 1) := by decide +kernel
theorem dX10_isWord_1 : decode cX10_isWord 1 = .ok (.getfield 167, 3) := by decide +kernel
theorem dX10_isWord_4 : decode cX10_isWord 4 = .ok (.ifCond .ne 108, 3) := by decide +kernel
theorem dX10_isWord_7 : decode cX10_isWord 7 = .ok (.aload_n 0, 1) := by decide +kernel
theorem dX10_isWord_8 : decode cX10_isWord 8 = .ok (.getfield 152, 3) := by decide +kernel
theorem dX10_isWord_11 : decode cX10_isWord 11 = .ok (.iconst 1, 1) := by decide +kernel
theorem dX10_isWord_12 : decode cX10_isWord 12 = .ok (.if_icmp .ne 100, 3) := by decide +kernel
theorem dX10_isWord_15 : decode cX10_isWord 15 = .ok (.aload_n 0, 1) := by decide +kernel
theorem dX10_isWord_16 : decode cX10_isWord 16 = .ok (.getfield 143, 3) := by decide +kernel
theorem dX10_isWord_19 : decode cX10_isWord 19 = .ok (.aload_n 0, 1) := by decide +kernel
theorem dX10_isWord_20 : decode cX10_isWord 20 = .ok (.getfield 149, 3) := by decide +kernel
theorem dX10_isWord_23 : decode cX10_isWord 23 = .ok (.bipush 8, 2) := by decide +kernel
theorem dX10_isWord_25 : decode cX10_isWord 25 = .ok (.iadd, 1) := by decide +kernel
theorem dX10_isWord_26 : decode cX10_isWord 26 = .ok (.if_icmp .gt 86, 3) := by decide +kernel
theorem dX10_isWord_29 : decode cX10_isWord 29 = .ok (.aload_n 0, 1) := by decide +kernel
theorem dX10_isWord_30 : decode cX10_isWord 30 = .ok (.iconst 0, 1) := by decide +kernel
theorem dX10_isWord_31 : decode cX10_isWord 31 = .ok (.iload_n 1, 1) := by decide +kernel
theorem dX10_isWord_32 : decode cX10_isWord 32 = .ok (.invokevirtual 174, 3) := by decide +kernel
theorem dX10_isWord_35 : decode cX10_isWord 35 = .ok (.ifCond .eq 77, 3) := by decide +kernel
theorem dX10_isWord_38 : decode cX10_isWord 38 = .ok (.aload_n 0, 1) := by decide +kernel
theorem dX10_isWord_39 : decode cX10_isWord 39 = .ok (.iconst 1, 1) := by decide +kernel
theorem dX10_isWord_40 : decode cX10_isWord 40 = .ok (.iload_n 2, 1) := by decide +kernel
theorem dX10_isWord_41 : decode cX10_isWord 41 = .ok (.invokevirtual 174, 3) := by decide +kernel
theorem dX10_isWord_44 : decode cX10_isWord 44 = .ok (.ifCond .eq 68, 3) := by decide +kernel
theorem dX10_isWord_47 : decode cX10_isWord 47 = .ok (.aload_n 0, 1) := by decide +kernel
theorem dX10_isWord_48 : decode cX10_isWord 48 = .ok (.iconst 2, 1) := by decide +kernel
theorem dX10_isWord_49 : decode cX10_isWord 49 = .ok (.iload_n 3, 1) := by decide +kernel
theorem dX10_isWord_50 : decode cX10_isWord 50 = .ok (.invokevirtual 174, 3) := by decide +kernel
theorem dX10_isWord_53 : decode cX10_isWord 53 = .ok (.ifCond .eq 59, 3) := by decide +kernel
theorem dX10_isWord_56 : decode cX10_isWord 56 = .ok (.aload_n 0, 1) := by decide +kernel
theorem dX10_isWord_57 : decode cX10_isWord 57 = .ok (.iconst 3, 1) := by decide +kernel
theorem dX10_isWord_58 : decode cX10_isWord 58 = .ok (.iload 4, 2) := by decide +kernel
theorem dX10_isWord_60 : decode cX10_isWord 60 = .ok (.invokevirtual 174, 3) := by decide +kernel
theorem dX10_isWord_63 : decode cX10_isWord 63 = .ok (.ifCond .eq 49, 3) := by decide +kernel
theorem dX10_isWord_66 : decode cX10_isWord 66 = .ok (.aload_n 0, 1) := by decide +kernel
theorem dX10_isWord_67 : decode cX10_isWord 67 = .ok (.iconst 4, 1) := by decide +kernel
theorem dX10_isWord_68 : decode cX10_isWord 68 = .ok (.iload 5, 2) := by decide +kernel
theorem dX10_isWord_70 : decode cX10_isWord 70 = .ok (.invokevirtual 174, 3) := by decide +kernel
theorem dX10_isWord_73 : decode cX10_isWord 73 = .ok (.ifCond .eq 39, 3) := by decide +kernel
theorem dX10_isWord_76 : decode cX10_isWord 76 = .ok (.aload_n 0, 1) := by decide +kernel
theorem dX10_isWord_77 : decode cX10_isWord 77 = .ok (.iconst 5, 1) := by decide +kernel
theorem dX10_isWord_78 : decode cX10_isWord 78 = .ok (.iload 6, 2) := by decide +kernel
theorem dX10_isWord_80 : decode cX10_isWord 80 = .ok (.invokevirtual 174, 3) := by decide +kernel
theorem dX10_isWord_83 : decode cX10_isWord 83 = .ok (.ifCond .eq 29, 3) := by decide +kernel
theorem dX10_isWord_86 : decode cX10_isWord 86 = .ok (.aload_n 0, 1) := by decide +kernel
theorem dX10_isWord_87 : decode cX10_isWord 87 = .ok (.bipush 6, 2) := by decide +kernel
theorem dX10_isWord_89 : decode cX10_isWord 89 = .ok (.iload 7, 2) := by decide +kernel
theorem dX10_isWord_91 : decode cX10_isWord 91 = .ok (.invokevirtual 174, 3) := by decide +kernel
theorem dX10_isWord_94 : decode cX10_isWord 94 = .ok (.ifCond .eq 18, 3) := by decide +kernel
theorem dX10_isWord_97 : decode cX10_isWord 97 = .ok (.aload_n 0, 1) := by decide +kernel
theorem dX10_isWord_98 : decode cX10_isWord 98 = .ok (.bipush 7, 2) := by decide +kernel
theorem dX10_isWord_100 : decode cX10_isWord 100 = .ok (.iload 8, 2) := by decide +kernel
theorem dX10_isWord_102 : decode cX10_isWord 102 = .ok (.invokevirtual 174, 3) := by decide +kernel
theorem dX10_isWord_105 : decode cX10_isWord 105 = .ok (.ifCond .eq 7, 3) := by decide +kernel
theorem dX10_isWord_108 : decode cX10_isWord 108 = .ok (.iconst 1, 1) := by decide +kernel
theorem dX10_isWord_109 : decode cX10_isWord 109 = .ok (.goto 4, 3) := by decide +kernel
theorem dX10_isWord_112 : decode cX10_isWord 112 = .ok (.iconst 0, 1) := by decide +kernel
theorem dX10_isWord_113 : decode cX10_isWord 113 = .ok (.ireturn, 1) := by decide +kernel
theorem dX10_isSign_0 : decode cX10_isSign 0 = .ok (.aload_n 0, 1) := by decide +kernel
theorem dX10_isSign_1 : decode cX10_isSign 1 = .ok (.getfield 167, 3) := by decide +kernel
theorem dX10_isSign_4 : decode cX10_isSign 4 = .ok (.ifCond .ne 25, 3) := by decide +kernel
theorem dX10_isSign_7 : decode cX10_isSign 7 = .ok (.aload_n 0, 1) := by decide +kernel
theorem dX10_isSign_8 : decode cX10_isSign 8 = .ok (.getfield 152, 3) := by decide +kernel
theorem dX10_isSign_11 : decode cX10_isSign 11 = .ok (.iconst 3, 1) := by decide +kernel
theorem dX10_isSign_12 : decode cX10_isSign 12 = .ok (.if_icmp .ne 17, 3) := by decide +kernel
theorem dX10_isSign_15 : decode cX10_isSign 15 = .ok (.aload_n 0, 1) := by decide +kernel
theorem dX10_isSign_16 : decode cX10_isSign 16 = .ok (.getfield 163, 3) := by decide +kernel
theorem dX10_isSign_19 : decode cX10_isSign 19 = .ok (.iload_n 1, 1) := by decide +kernel
theorem dX10_isSign_20 : decode cX10_isSign 20 = .ok (.i2l, 1) := by decide +kernel
theorem dX10_isSign_21 : decode cX10_isSign 21 = .ok (.lcmp, 1) := by decide +kernel
theorem dX10_isSign_22 : decode cX10_isSign 22 = .ok (.ifCond .ne 7, 3) := by decide +kernel
theorem dX10_isSign_25 : decode cX10_isSign 25 = .ok (.iconst 1, 1) := by decide +kernel
theorem dX10_isSign_26 : decode cX10_isSign 26 = .ok (.goto 4, 3) := by decide +kernel
theorem dX10_isSign_29 : decode cX10_isSign 29 = .ok (.iconst 0, 1) := by decide +kernel
theorem dX10_isSign_30 : decode cX10_isSign 30 = .ok (.ireturn, 1) := by decide +kernel
theorem dX10_opens_0 : decode cX10_opens 0 = .ok (.aload_n 0, 1) := by decide +kernel
theorem dX10_opens_1 : decode cX10_opens 1 = .ok (.getfield 178, 3) := by decide +kernel
theorem dX10_opens_4 : decode cX10_opens 4 = .ok (.iconst 5, 1) := by decide +kernel
theorem dX10_opens_5 : decode cX10_opens 5 = .ok (.if_icmp .ne 9, 3) := by decide +kernel
theorem dX10_opens_8 : decode cX10_opens 8 = .ok (.aload_n 0, 1) := by decide +kernel
theorem dX10_opens_9 : decode cX10_opens 9 = .ok (.invokevirtual 181, 3) := by decide +kernel
theorem dX10_opens_12 : decode cX10_opens 12 = .ok (.iconst 0, 1) := by decide +kernel
theorem dX10_opens_13 : decode cX10_opens 13 = .ok (.ireturn, 1) := by decide +kernel
theorem dX10_opens_14 : decode cX10_opens 14 = .ok (.aload_n 0, 1) := by decide +kernel
theorem dX10_opens_15 : decode cX10_opens 15 = .ok (.dup, 1) := by decide +kernel
theorem dX10_opens_16 : decode cX10_opens 16 = .ok (.getfield 178, 3) := by decide +kernel
theorem dX10_opens_19 : decode cX10_opens 19 = .ok (.iconst 1, 1) := by decide +kernel
theorem dX10_opens_20 : decode cX10_opens 20 = .ok (.iadd, 1) := by decide +kernel
theorem dX10_opens_21 : decode cX10_opens 21 = .ok (.putfield 178, 3) := by decide +kernel
theorem dX10_opens_24 : decode cX10_opens 24 = .ok (.aload_n 0, 1) := by decide +kernel
theorem dX10_opens_25 : decode cX10_opens 25 = .ok (.invokevirtual 184, 3) := by decide +kernel
theorem dX10_opens_28 : decode cX10_opens 28 = .ok (.iconst 1, 1) := by decide +kernel
theorem dX10_opens_29 : decode cX10_opens 29 = .ok (.ireturn, 1) := by decide +kernel
theorem dX10_name_0 : decode cX10_name 0 = .ok (.aload_n 0, 1) := by decide +kernel
theorem dX10_name_1 : decode cX10_name 1 = .ok (.bipush 116, 2) := by decide +kernel
theorem dX10_name_3 : decode cX10_name 3 = .ok (.bipush 104, 2) := by decide +kernel
theorem dX10_name_5 : decode cX10_name 5 = .ok (.bipush 105, 2) := by decide +kernel
theorem dX10_name_7 : decode cX10_name 7 = .ok (.bipush 110, 2) := by decide +kernel
theorem dX10_name_9 : decode cX10_name 9 = .ok (.bipush 103, 2) := by decide +kernel
theorem dX10_name_11 : decode cX10_name 11 = .ok (.iconst 0, 1) := by decide +kernel
theorem dX10_name_12 : decode cX10_name 12 = .ok (.iconst 0, 1) := by decide +kernel
theorem dX10_name_13 : decode cX10_name 13 = .ok (.iconst 0, 1) := by decide +kernel
theorem dX10_name_14 : decode cX10_name 14 = .ok (.invokevirtual 187, 3) := by decide +kernel
theorem dX10_name_17 : decode cX10_name 17 = .ok (.ifCond .eq 8, 3) := by decide +kernel
theorem dX10_name_20 : decode cX10_name 20 = .ok (.aload_n 0, 1) := by decide +kernel
theorem dX10_name_21 : decode cX10_name 21 = .ok (.getfield 191, 3) := by decide +kernel
theorem dX10_name_24 : decode cX10_name 24 = .ok (.ireturn, 1) := by decide +kernel
theorem dX10_name_25 : decode cX10_name 25 = .ok (.aload_n 0, 1) := by decide +kernel
theorem dX10_name_26 : decode cX10_name 26 = .ok (.bipush 116, 2) := by decide +kernel
theorem dX10_name_28 : decode cX10_name 28 = .ok (.bipush 101, 2) := by decide +kernel
theorem dX10_name_30 : decode cX10_name 30 = .ok (.bipush 109, 2) := by decide +kernel
theorem dX10_name_32 : decode cX10_name 32 = .ok (.bipush 112, 2) := by decide +kernel
theorem dX10_name_34 : decode cX10_name 34 = .ok (.bipush 101, 2) := by decide +kernel
theorem dX10_name_36 : decode cX10_name 36 = .ok (.bipush 114, 2) := by decide +kernel
theorem dX10_name_38 : decode cX10_name 38 = .ok (.iconst 0, 1) := by decide +kernel
theorem dX10_name_39 : decode cX10_name 39 = .ok (.iconst 0, 1) := by decide +kernel
theorem dX10_name_40 : decode cX10_name 40 = .ok (.invokevirtual 187, 3) := by decide +kernel
theorem dX10_name_43 : decode cX10_name 43 = .ok (.ifCond .eq 8, 3) := by decide +kernel
theorem dX10_name_46 : decode cX10_name 46 = .ok (.aload_n 0, 1) := by decide +kernel
theorem dX10_name_47 : decode cX10_name 47 = .ok (.getfield 194, 3) := by decide +kernel
theorem dX10_name_50 : decode cX10_name 50 = .ok (.ireturn, 1) := by decide +kernel
theorem dX10_name_51 : decode cX10_name 51 = .ok (.aload_n 0, 1) := by decide +kernel
theorem dX10_name_52 : decode cX10_name 52 = .ok (.bipush 110, 2) := by decide +kernel
theorem dX10_name_54 : decode cX10_name 54 = .ok (.bipush 117, 2) := by decide +kernel
theorem dX10_name_56 : decode cX10_name 56 = .ok (.bipush 109, 2) := by decide +kernel
theorem dX10_name_58 : decode cX10_name 58 = .ok (.bipush 98, 2) := by decide +kernel
theorem dX10_name_60 : decode cX10_name 60 = .ok (.bipush 101, 2) := by decide +kernel
theorem dX10_name_62 : decode cX10_name 62 = .ok (.bipush 114, 2) := by decide +kernel
theorem dX10_name_64 : decode cX10_name 64 = .ok (.iconst 0, 1) := by decide +kernel
theorem dX10_name_65 : decode cX10_name 65 = .ok (.iconst 0, 1) := by decide +kernel
theorem dX10_name_66 : decode cX10_name 66 = .ok (.invokevirtual 187, 3) := by decide +kernel
theorem dX10_name_69 : decode cX10_name 69 = .ok (.ifCond .eq 8, 3) := by decide +kernel
theorem dX10_name_72 : decode cX10_name 72 = .ok (.aload_n 0, 1) := by decide +kernel
theorem dX10_name_73 : decode cX10_name 73 = .ok (.getfield 197, 3) := by decide +kernel
theorem dX10_name_76 : decode cX10_name 76 = .ok (.ireturn, 1) := by decide +kernel
theorem dX10_name_77 : decode cX10_name 77 = .ok (.aload_n 0, 1) := by decide +kernel
theorem dX10_name_78 : decode cX10_name 78 = .ok (.bipush 100, 2) := by decide +kernel
theorem dX10_name_80 : decode cX10_name 80 = .ok (.bipush 97, 2) := by decide +kernel
theorem dX10_name_82 : decode cX10_name 82 = .ok (.bipush 121, 2) := by decide +kernel
theorem dX10_name_84 : decode cX10_name 84 = .ok (.iconst 0, 1) := by decide +kernel
theorem dX10_name_85 : decode cX10_name 85 = .ok (.iconst 0, 1) := by decide +kernel
theorem dX10_name_86 : decode cX10_name 86 = .ok (.iconst 0, 1) := by decide +kernel
theorem dX10_name_87 : decode cX10_name 87 = .ok (.iconst 0, 1) := by decide +kernel
theorem dX10_name_88 : decode cX10_name 88 = .ok (.iconst 0, 1) := by decide +kernel
theorem dX10_name_89 : decode cX10_name 89 = .ok (.invokevirtual 187, 3) := by decide +kernel
theorem dX10_name_92 : decode cX10_name 92 = .ok (.ifCond .eq 8, 3) := by decide +kernel
theorem dX10_name_95 : decode cX10_name 95 = .ok (.aload_n 0, 1) := by decide +kernel
theorem dX10_name_96 : decode cX10_name 96 = .ok (.getfield 200, 3) := by decide +kernel
theorem dX10_name_99 : decode cX10_name 99 = .ok (.ireturn, 1) := by decide +kernel
theorem dX10_name_100 : decode cX10_name 100 = .ok (.aload_n 0, 1) := by decide +kernel
theorem dX10_name_101 : decode cX10_name 101 = .ok (.bipush 99, 2) := by decide +kernel
theorem dX10_name_103 : decode cX10_name 103 = .ok (.bipush 111, 2) := by decide +kernel
theorem dX10_name_105 : decode cX10_name 105 = .ok (.bipush 97, 2) := by decide +kernel
theorem dX10_name_107 : decode cX10_name 107 = .ok (.bipush 116, 2) := by decide +kernel
theorem dX10_name_109 : decode cX10_name 109 = .ok (.iconst 0, 1) := by decide +kernel
theorem dX10_name_110 : decode cX10_name 110 = .ok (.iconst 0, 1) := by decide +kernel
theorem dX10_name_111 : decode cX10_name 111 = .ok (.iconst 0, 1) := by decide +kernel
theorem dX10_name_112 : decode cX10_name 112 = .ok (.iconst 0, 1) := by decide +kernel
theorem dX10_name_113 : decode cX10_name 113 = .ok (.invokevirtual 187, 3) := by decide +kernel
theorem dX10_name_116 : decode cX10_name 116 = .ok (.ifCond .eq 8, 3) := by decide +kernel
theorem dX10_name_119 : decode cX10_name 119 = .ok (.aload_n 0, 1) := by decide +kernel
theorem dX10_name_120 : decode cX10_name 120 = .ok (.getfield 203, 3) := by decide +kernel
theorem dX10_name_123 : decode cX10_name 123 = .ok (.ireturn, 1) := by decide +kernel
theorem dX10_name_124 : decode cX10_name 124 = .ok (.aload_n 0, 1) := by decide +kernel
theorem dX10_name_125 : decode cX10_name 125 = .ok (.bipush 111, 2) := by decide +kernel
theorem dX10_name_127 : decode cX10_name 127 = .ok (.bipush 119, 2) := by decide +kernel
theorem dX10_name_129 : decode cX10_name 129 = .ok (.bipush 110, 2) := by decide +kernel
theorem dX10_name_131 : decode cX10_name 131 = .ok (.iconst 0, 1) := by decide +kernel
theorem dX10_name_132 : decode cX10_name 132 = .ok (.iconst 0, 1) := by decide +kernel
theorem dX10_name_133 : decode cX10_name 133 = .ok (.iconst 0, 1) := by decide +kernel
theorem dX10_name_134 : decode cX10_name 134 = .ok (.iconst 0, 1) := by decide +kernel
theorem dX10_name_135 : decode cX10_name 135 = .ok (.iconst 0, 1) := by decide +kernel
theorem dX10_name_136 : decode cX10_name 136 = .ok (.invokevirtual 187, 3) := by decide +kernel
theorem dX10_name_139 : decode cX10_name 139 = .ok (.ifCond .eq 8, 3) := by decide +kernel
theorem dX10_name_142 : decode cX10_name 142 = .ok (.aload_n 0, 1) := by decide +kernel
theorem dX10_name_143 : decode cX10_name 143 = .ok (.getfield 206, 3) := by decide +kernel
theorem dX10_name_146 : decode cX10_name 146 = .ok (.ireturn, 1) := by decide +kernel
theorem dX10_name_147 : decode cX10_name 147 = .ok (.aload_n 0, 1) := by decide +kernel
theorem dX10_name_148 : decode cX10_name 148 = .ok (.invokevirtual 181, 3) := by decide +kernel
theorem dX10_name_151 : decode cX10_name 151 = .ok (.iconst 0, 1) := by decide +kernel
theorem dX10_name_152 : decode cX10_name 152 = .ok (.ireturn, 1) := by decide +kernel
theorem dX10_atom_0 : decode cX10_atom 0 = .ok (.iconst 0, 1) := by decide +kernel
theorem dX10_atom_1 : decode cX10_atom 1 = .ok (.istore_n 1, 1) := by decide +kernel
theorem dX10_atom_2 : decode cX10_atom 2 = .ok (.aload_n 0, 1) := by decide +kernel
theorem dX10_atom_3 : decode cX10_atom 3 = .ok (.bipush 45, 2) := by decide +kernel
theorem dX10_atom_5 : decode cX10_atom 5 = .ok (.invokevirtual 209, 3) := by decide +kernel
theorem dX10_atom_8 : decode cX10_atom 8 = .ok (.ifCond .eq 29, 3) := by decide +kernel
theorem dX10_atom_11 : decode cX10_atom 11 = .ok (.aload_n 0, 1) := by decide +kernel
theorem dX10_atom_12 : decode cX10_atom 12 = .ok (.invokevirtual 212, 3) := by decide +kernel
theorem dX10_atom_15 : decode cX10_atom 15 = .ok (.ifCond .eq 146, 3) := by decide +kernel
theorem dX10_atom_18 : decode cX10_atom 18 = .ok (.aload_n 0, 1) := by decide +kernel
theorem dX10_atom_19 : decode cX10_atom 19 = .ok (.invokevirtual 216, 3) := by decide +kernel
theorem dX10_atom_22 : decode cX10_atom 22 = .ok (.ineg, 1) := by decide +kernel
theorem dX10_atom_23 : decode cX10_atom 23 = .ok (.istore_n 1, 1) := by decide +kernel
theorem dX10_atom_24 : decode cX10_atom 24 = .ok (.aload_n 0, 1) := by decide +kernel
theorem dX10_atom_25 : decode cX10_atom 25 = .ok (.dup, 1) := by decide +kernel
theorem dX10_atom_26 : decode cX10_atom 26 = .ok (.getfield 178, 3) := by decide +kernel
theorem dX10_atom_29 : decode cX10_atom 29 = .ok (.iconst 1, 1) := by decide +kernel
theorem dX10_atom_30 : decode cX10_atom 30 = .ok (.isub, 1) := by decide +kernel
theorem dX10_atom_31 : decode cX10_atom 31 = .ok (.putfield 178, 3) := by decide +kernel
theorem dX10_atom_34 : decode cX10_atom 34 = .ok (.goto 127, 3) := by decide +kernel
theorem dX10_atom_37 : decode cX10_atom 37 = .ok (.aload_n 0, 1) := by decide +kernel
theorem dX10_atom_38 : decode cX10_atom 38 = .ok (.bipush 40, 2) := by decide +kernel
theorem dX10_atom_40 : decode cX10_atom 40 = .ok (.invokevirtual 209, 3) := by decide +kernel
theorem dX10_atom_43 : decode cX10_atom 43 = .ok (.ifCond .eq 52, 3) := by decide +kernel
theorem dX10_atom_46 : decode cX10_atom 46 = .ok (.aload_n 0, 1) := by decide +kernel
theorem dX10_atom_47 : decode cX10_atom 47 = .ok (.invokevirtual 212, 3) := by decide +kernel
theorem dX10_atom_50 : decode cX10_atom 50 = .ok (.ifCond .eq 111, 3) := by decide +kernel
theorem dX10_atom_53 : decode cX10_atom 53 = .ok (.aload_n 0, 1) := by decide +kernel
theorem dX10_atom_54 : decode cX10_atom 54 = .ok (.invokevirtual 220, 3) := by decide +kernel
theorem dX10_atom_57 : decode cX10_atom 57 = .ok (.istore_n 1, 1) := by decide +kernel
theorem dX10_atom_58 : decode cX10_atom 58 = .ok (.aload_n 0, 1) := by decide +kernel
theorem dX10_atom_59 : decode cX10_atom 59 = .ok (.bipush 41, 2) := by decide +kernel
theorem dX10_atom_61 : decode cX10_atom 61 = .ok (.invokevirtual 209, 3) := by decide +kernel
theorem dX10_atom_64 : decode cX10_atom 64 = .ok (.ifCond .ne 7, 3) := by decide +kernel
theorem dX10_atom_67 : decode cX10_atom 67 = .ok (.aload_n 0, 1) := by decide +kernel
theorem dX10_atom_68 : decode cX10_atom 68 = .ok (.invokevirtual 181, 3) := by decide +kernel
theorem dX10_atom_71 : decode cX10_atom 71 = .ok (.aload_n 0, 1) := by decide +kernel
theorem dX10_atom_72 : decode cX10_atom 72 = .ok (.dup, 1) := by decide +kernel
theorem dX10_atom_73 : decode cX10_atom 73 = .ok (.getfield 178, 3) := by decide +kernel
theorem dX10_atom_76 : decode cX10_atom 76 = .ok (.iconst 1, 1) := by decide +kernel
theorem dX10_atom_77 : decode cX10_atom 77 = .ok (.isub, 1) := by decide +kernel
theorem dX10_atom_78 : decode cX10_atom 78 = .ok (.putfield 178, 3) := by decide +kernel
theorem dX10_atom_81 : decode cX10_atom 81 = .ok (.aload_n 0, 1) := by decide +kernel
theorem dX10_atom_82 : decode cX10_atom 82 = .ok (.getfield 167, 3) := by decide +kernel
theorem dX10_atom_85 : decode cX10_atom 85 = .ok (.ifCond .ne 76, 3) := by decide +kernel
theorem dX10_atom_88 : decode cX10_atom 88 = .ok (.aload_n 0, 1) := by decide +kernel
theorem dX10_atom_89 : decode cX10_atom 89 = .ok (.invokevirtual 184, 3) := by decide +kernel
theorem dX10_atom_92 : decode cX10_atom 92 = .ok (.goto 69, 3) := by decide +kernel
theorem dX10_atom_95 : decode cX10_atom 95 = .ok (.aload_n 0, 1) := by decide +kernel
theorem dX10_atom_96 : decode cX10_atom 96 = .ok (.getfield 167, 3) := by decide +kernel
theorem dX10_atom_99 : decode cX10_atom 99 = .ok (.ifCond .ne 24, 3) := by decide +kernel
theorem dX10_atom_102 : decode cX10_atom 102 = .ok (.aload_n 0, 1) := by decide +kernel
theorem dX10_atom_103 : decode cX10_atom 103 = .ok (.getfield 152, 3) := by decide +kernel
theorem dX10_atom_106 : decode cX10_atom 106 = .ok (.iconst 2, 1) := by decide +kernel
theorem dX10_atom_107 : decode cX10_atom 107 = .ok (.if_icmp .ne 16, 3) := by decide +kernel
theorem dX10_atom_110 : decode cX10_atom 110 = .ok (.aload_n 0, 1) := by decide +kernel
theorem dX10_atom_111 : decode cX10_atom 111 = .ok (.getfield 163, 3) := by decide +kernel
theorem dX10_atom_114 : decode cX10_atom 114 = .ok (.l2i, 1) := by decide +kernel
theorem dX10_atom_115 : decode cX10_atom 115 = .ok (.istore_n 1, 1) := by decide +kernel
theorem dX10_atom_116 : decode cX10_atom 116 = .ok (.aload_n 0, 1) := by decide +kernel
theorem dX10_atom_117 : decode cX10_atom 117 = .ok (.invokevirtual 184, 3) := by decide +kernel
theorem dX10_atom_120 : decode cX10_atom 120 = .ok (.goto 41, 3) := by decide +kernel
theorem dX10_atom_123 : decode cX10_atom 123 = .ok (.aload_n 0, 1) := by decide +kernel
theorem dX10_atom_124 : decode cX10_atom 124 = .ok (.getfield 167, 3) := by decide +kernel
theorem dX10_atom_127 : decode cX10_atom 127 = .ok (.ifCond .ne 30, 3) := by decide +kernel
theorem dX10_atom_130 : decode cX10_atom 130 = .ok (.aload_n 0, 1) := by decide +kernel
theorem dX10_atom_131 : decode cX10_atom 131 = .ok (.getfield 152, 3) := by decide +kernel
theorem dX10_atom_134 : decode cX10_atom 134 = .ok (.iconst 1, 1) := by decide +kernel
theorem dX10_atom_135 : decode cX10_atom 135 = .ok (.if_icmp .ne 22, 3) := by decide +kernel
theorem dX10_atom_138 : decode cX10_atom 138 = .ok (.aload_n 0, 1) := by decide +kernel
theorem dX10_atom_139 : decode cX10_atom 139 = .ok (.invokevirtual 223, 3) := by decide +kernel
theorem dX10_atom_142 : decode cX10_atom 142 = .ok (.istore_n 1, 1) := by decide +kernel
theorem dX10_atom_143 : decode cX10_atom 143 = .ok (.aload_n 0, 1) := by decide +kernel
theorem dX10_atom_144 : decode cX10_atom 144 = .ok (.getfield 167, 3) := by decide +kernel
theorem dX10_atom_147 : decode cX10_atom 147 = .ok (.ifCond .ne 14, 3) := by decide +kernel
theorem dX10_atom_150 : decode cX10_atom 150 = .ok (.aload_n 0, 1) := by decide +kernel
theorem dX10_atom_151 : decode cX10_atom 151 = .ok (.invokevirtual 184, 3) := by decide +kernel
theorem dX10_atom_154 : decode cX10_atom 154 = .ok (.goto 7, 3) := by decide +kernel
theorem dX10_atom_157 : decode cX10_atom 157 = .ok (.aload_n 0, 1) := by decide +kernel
theorem dX10_atom_158 : decode cX10_atom 158 = .ok (.invokevirtual 181, 3) := by decide +kernel
theorem dX10_atom_161 : decode cX10_atom 161 = .ok (.iload_n 1, 1) := by decide +kernel
theorem dX10_atom_162 : decode cX10_atom 162 = .ok (.ireturn, 1) := by decide +kernel
theorem dX10_term_0 : decode cX10_term 0 = .ok (.aload_n 0, 1) := by decide +kernel
theorem dX10_term_1 : decode cX10_term 1 = .ok (.invokevirtual 216, 3) := by decide +kernel
theorem dX10_term_4 : decode cX10_term 4 = .ok (.istore_n 1, 1) := by decide +kernel
theorem dX10_term_5 : decode cX10_term 5 = .ok (.aload_n 0, 1) := by decide +kernel
theorem dX10_term_6 : decode cX10_term 6 = .ok (.bipush 42, 2) := by decide +kernel
theorem dX10_term_8 : decode cX10_term 8 = .ok (.invokevirtual 209, 3) := by decide +kernel
theorem dX10_term_11 : decode cX10_term 11 = .ok (.ifCond .eq 17, 3) := by decide +kernel
theorem dX10_term_14 : decode cX10_term 14 = .ok (.aload_n 0, 1) := by decide +kernel
theorem dX10_term_15 : decode cX10_term 15 = .ok (.invokevirtual 184, 3) := by decide +kernel
theorem dX10_term_18 : decode cX10_term 18 = .ok (.iload_n 1, 1) := by decide +kernel
theorem dX10_term_19 : decode cX10_term 19 = .ok (.aload_n 0, 1) := by decide +kernel
theorem dX10_term_20 : decode cX10_term 20 = .ok (.invokevirtual 216, 3) := by decide +kernel
theorem dX10_term_23 : decode cX10_term 23 = .ok (.imul, 1) := by decide +kernel
theorem dX10_term_24 : decode cX10_term 24 = .ok (.istore_n 1, 1) := by decide +kernel
theorem dX10_term_25 : decode cX10_term 25 = .ok (.goto (-20), 3) := by decide +kernel
theorem dX10_term_28 : decode cX10_term 28 = .ok (.iload_n 1, 1) := by decide +kernel
theorem dX10_term_29 : decode cX10_term 29 = .ok (.ireturn, 1) := by decide +kernel
theorem dX10_added_0 : decode cX10_added 0 = .ok (.aload_n 0, 1) := by decide +kernel
theorem dX10_added_1 : decode cX10_added 1 = .ok (.invokevirtual 226, 3) := by decide +kernel
theorem dX10_added_4 : decode cX10_added 4 = .ok (.istore_n 1, 1) := by decide +kernel
theorem dX10_added_5 : decode cX10_added 5 = .ok (.aload_n 0, 1) := by decide +kernel
theorem dX10_added_6 : decode cX10_added 6 = .ok (.bipush 43, 2) := by decide +kernel
theorem dX10_added_8 : decode cX10_added 8 = .ok (.invokevirtual 209, 3) := by decide +kernel
theorem dX10_added_11 : decode cX10_added 11 = .ok (.ifCond .ne 12, 3) := by decide +kernel
theorem dX10_added_14 : decode cX10_added 14 = .ok (.aload_n 0, 1) := by decide +kernel
theorem dX10_added_15 : decode cX10_added 15 = .ok (.bipush 45, 2) := by decide +kernel
theorem dX10_added_17 : decode cX10_added 17 = .ok (.invokevirtual 209, 3) := by decide +kernel
theorem dX10_added_20 : decode cX10_added 20 = .ok (.ifCond .eq 46, 3) := by decide +kernel
theorem dX10_added_23 : decode cX10_added 23 = .ok (.aload_n 0, 1) := by decide +kernel
theorem dX10_added_24 : decode cX10_added 24 = .ok (.getfield 163, 3) := by decide +kernel
theorem dX10_added_27 : decode cX10_added 27 = .ok (.ldc2_w 229, 3) := by decide +kernel
theorem dX10_added_30 : decode cX10_added 30 = .ok (.lcmp, 1) := by decide +kernel
theorem dX10_added_31 : decode cX10_added 31 = .ok (.ifCond .ne 7, 3) := by decide +kernel
theorem dX10_added_34 : decode cX10_added 34 = .ok (.iconst 1, 1) := by decide +kernel
theorem dX10_added_35 : decode cX10_added 35 = .ok (.goto 4, 3) := by decide +kernel
theorem dX10_added_38 : decode cX10_added 38 = .ok (.iconst 0, 1) := by decide +kernel
theorem dX10_added_39 : decode cX10_added 39 = .ok (.istore_n 2, 1) := by decide +kernel
theorem dX10_added_40 : decode cX10_added 40 = .ok (.aload_n 0, 1) := by decide +kernel
theorem dX10_added_41 : decode cX10_added 41 = .ok (.invokevirtual 184, 3) := by decide +kernel
theorem dX10_added_44 : decode cX10_added 44 = .ok (.aload_n 0, 1) := by decide +kernel
theorem dX10_added_45 : decode cX10_added 45 = .ok (.invokevirtual 226, 3) := by decide +kernel
theorem dX10_added_48 : decode cX10_added 48 = .ok (.istore_n 3, 1) := by decide +kernel
theorem dX10_added_49 : decode cX10_added 49 = .ok (.iload_n 2, 1) := by decide +kernel
theorem dX10_added_50 : decode cX10_added 50 = .ok (.ifCond .eq 9, 3) := by decide +kernel
theorem dX10_added_53 : decode cX10_added 53 = .ok (.iload_n 1, 1) := by decide +kernel
theorem dX10_added_54 : decode cX10_added 54 = .ok (.iload_n 3, 1) := by decide +kernel
theorem dX10_added_55 : decode cX10_added 55 = .ok (.iadd, 1) := by decide +kernel
theorem dX10_added_56 : decode cX10_added 56 = .ok (.goto 6, 3) := by decide +kernel
theorem dX10_added_59 : decode cX10_added 59 = .ok (.iload_n 1, 1) := by decide +kernel
theorem dX10_added_60 : decode cX10_added 60 = .ok (.iload_n 3, 1) := by decide +kernel
theorem dX10_added_61 : decode cX10_added 61 = .ok (.isub, 1) := by decide +kernel
theorem dX10_added_62 : decode cX10_added 62 = .ok (.istore_n 1, 1) := by decide +kernel
theorem dX10_added_63 : decode cX10_added 63 = .ok (.goto (-58), 3) := by decide +kernel
theorem dX10_added_66 : decode cX10_added 66 = .ok (.iload_n 1, 1) := by decide +kernel
theorem dX10_added_67 : decode cX10_added 67 = .ok (.ireturn, 1) := by decide +kernel
theorem dX10_not_0 : decode cX10_not 0 = .ok (.aload_n 0, 1) := by decide +kernel
theorem dX10_not_1 : decode cX10_not 1 = .ok (.bipush 110, 2) := by decide +kernel
theorem dX10_not_3 : decode cX10_not 3 = .ok (.bipush 111, 2) := by decide +kernel
theorem dX10_not_5 : decode cX10_not 5 = .ok (.bipush 116, 2) := by decide +kernel
theorem dX10_not_7 : decode cX10_not 7 = .ok (.iconst 0, 1) := by decide +kernel
theorem dX10_not_8 : decode cX10_not 8 = .ok (.iconst 0, 1) := by decide +kernel
theorem dX10_not_9 : decode cX10_not 9 = .ok (.iconst 0, 1) := by decide +kernel
theorem dX10_not_10 : decode cX10_not 10 = .ok (.iconst 0, 1) := by decide +kernel
theorem dX10_not_11 : decode cX10_not 11 = .ok (.iconst 0, 1) := by decide +kernel
theorem dX10_not_12 : decode cX10_not 12 = .ok (.invokevirtual 187, 3) := by decide +kernel
theorem dX10_not_15 : decode cX10_not 15 = .ok (.ifCond .eq 37, 3) := by decide +kernel
theorem dX10_not_18 : decode cX10_not 18 = .ok (.aload_n 0, 1) := by decide +kernel
theorem dX10_not_19 : decode cX10_not 19 = .ok (.invokevirtual 212, 3) := by decide +kernel
theorem dX10_not_22 : decode cX10_not 22 = .ok (.ifCond .ne 5, 3) := by decide +kernel
theorem dX10_not_25 : decode cX10_not 25 = .ok (.iconst 0, 1) := by decide +kernel
theorem dX10_not_26 : decode cX10_not 26 = .ok (.ireturn, 1) := by decide +kernel
theorem dX10_not_27 : decode cX10_not 27 = .ok (.aload_n 0, 1) := by decide +kernel
theorem dX10_not_28 : decode cX10_not 28 = .ok (.invokevirtual 231, 3) := by decide +kernel
theorem dX10_not_31 : decode cX10_not 31 = .ok (.istore_n 1, 1) := by decide +kernel
theorem dX10_not_32 : decode cX10_not 32 = .ok (.aload_n 0, 1) := by decide +kernel
theorem dX10_not_33 : decode cX10_not 33 = .ok (.dup, 1) := by decide +kernel
theorem dX10_not_34 : decode cX10_not 34 = .ok (.getfield 178, 3) := by decide +kernel
theorem dX10_not_37 : decode cX10_not 37 = .ok (.iconst 1, 1) := by decide +kernel
theorem dX10_not_38 : decode cX10_not 38 = .ok (.isub, 1) := by decide +kernel
theorem dX10_not_39 : decode cX10_not 39 = .ok (.putfield 178, 3) := by decide +kernel
theorem dX10_not_42 : decode cX10_not 42 = .ok (.iload_n 1, 1) := by decide +kernel
theorem dX10_not_43 : decode cX10_not 43 = .ok (.ifCond .ne 7, 3) := by decide +kernel
theorem dX10_not_46 : decode cX10_not 46 = .ok (.iconst 1, 1) := by decide +kernel
theorem dX10_not_47 : decode cX10_not 47 = .ok (.goto 4, 3) := by decide +kernel
theorem dX10_not_50 : decode cX10_not 50 = .ok (.iconst 0, 1) := by decide +kernel
theorem dX10_not_51 : decode cX10_not 51 = .ok (.ireturn, 1) := by decide +kernel
theorem dX10_not_52 : decode cX10_not 52 = .ok (.aload_n 0, 1) := by decide +kernel
theorem dX10_not_53 : decode cX10_not 53 = .ok (.invokevirtual 234, 3) := by decide +kernel
theorem dX10_not_56 : decode cX10_not 56 = .ok (.istore_n 1, 1) := by decide +kernel
theorem dX10_not_57 : decode cX10_not 57 = .ok (.aload_n 0, 1) := by decide +kernel
theorem dX10_not_58 : decode cX10_not 58 = .ok (.bipush 60, 2) := by decide +kernel
theorem dX10_not_60 : decode cX10_not 60 = .ok (.invokevirtual 209, 3) := by decide +kernel
theorem dX10_not_63 : decode cX10_not 63 = .ok (.ifCond .ne 14, 3) := by decide +kernel
theorem dX10_not_66 : decode cX10_not 66 = .ok (.aload_n 0, 1) := by decide +kernel
theorem dX10_not_67 : decode cX10_not 67 = .ok (.bipush 61, 2) := by decide +kernel
theorem dX10_not_69 : decode cX10_not 69 = .ok (.invokevirtual 209, 3) := by decide +kernel
theorem dX10_not_72 : decode cX10_not 72 = .ok (.ifCond .ne 5, 3) := by decide +kernel
theorem dX10_not_75 : decode cX10_not 75 = .ok (.iload_n 1, 1) := by decide +kernel
theorem dX10_not_76 : decode cX10_not 76 = .ok (.ireturn, 1) := by decide +kernel
theorem dX10_not_77 : decode cX10_not 77 = .ok (.aload_n 0, 1) := by decide +kernel
theorem dX10_not_78 : decode cX10_not 78 = .ok (.getfield 163, 3) := by decide +kernel
theorem dX10_not_81 : decode cX10_not 81 = .ok (.ldc2_w 237, 3) := by decide +kernel
theorem dX10_not_84 : decode cX10_not 84 = .ok (.lcmp, 1) := by decide +kernel
theorem dX10_not_85 : decode cX10_not 85 = .ok (.ifCond .ne 7, 3) := by decide +kernel
theorem dX10_not_88 : decode cX10_not 88 = .ok (.iconst 1, 1) := by decide +kernel
theorem dX10_not_89 : decode cX10_not 89 = .ok (.goto 4, 3) := by decide +kernel
theorem dX10_not_92 : decode cX10_not 92 = .ok (.iconst 0, 1) := by decide +kernel
theorem dX10_not_93 : decode cX10_not 93 = .ok (.istore_n 2, 1) := by decide +kernel
theorem dX10_not_94 : decode cX10_not 94 = .ok (.aload_n 0, 1) := by decide +kernel
theorem dX10_not_95 : decode cX10_not 95 = .ok (.invokevirtual 184, 3) := by decide +kernel
theorem dX10_not_98 : decode cX10_not 98 = .ok (.aload_n 0, 1) := by decide +kernel
theorem dX10_not_99 : decode cX10_not 99 = .ok (.invokevirtual 234, 3) := by decide +kernel
theorem dX10_not_102 : decode cX10_not 102 = .ok (.istore_n 3, 1) := by decide +kernel
theorem dX10_not_103 : decode cX10_not 103 = .ok (.iload_n 2, 1) := by decide +kernel
theorem dX10_not_104 : decode cX10_not 104 = .ok (.ifCond .eq 11, 3) := by decide +kernel
theorem dX10_not_107 : decode cX10_not 107 = .ok (.iload_n 1, 1) := by decide +kernel
theorem dX10_not_108 : decode cX10_not 108 = .ok (.iload_n 3, 1) := by decide +kernel
theorem dX10_not_109 : decode cX10_not 109 = .ok (.if_icmp .ge 15, 3) := by decide +kernel
theorem dX10_not_112 : decode cX10_not 112 = .ok (.goto 8, 3) := by decide +kernel
theorem dX10_not_115 : decode cX10_not 115 = .ok (.iload_n 1, 1) := by decide +kernel
theorem dX10_not_116 : decode cX10_not 116 = .ok (.iload_n 3, 1) := by decide +kernel
theorem dX10_not_117 : decode cX10_not 117 = .ok (.if_icmp .ne 7, 3) := by decide +kernel
theorem dX10_not_120 : decode cX10_not 120 = .ok (.iconst 1, 1) := by decide +kernel
theorem dX10_not_121 : decode cX10_not 121 = .ok (.goto 4, 3) := by decide +kernel
theorem dX10_not_124 : decode cX10_not 124 = .ok (.iconst 0, 1) := by decide +kernel
theorem dX10_not_125 : decode cX10_not 125 = .ok (.ireturn, 1) := by decide +kernel
theorem dX10_both_0 : decode cX10_both 0 = .ok (.aload_n 0, 1) := by decide +kernel
theorem dX10_both_1 : decode cX10_both 1 = .ok (.invokevirtual 231, 3) := by decide +kernel
theorem dX10_both_4 : decode cX10_both 4 = .ok (.istore_n 1, 1) := by decide +kernel
theorem dX10_both_5 : decode cX10_both 5 = .ok (.aload_n 0, 1) := by decide +kernel
theorem dX10_both_6 : decode cX10_both 6 = .ok (.bipush 97, 2) := by decide +kernel
theorem dX10_both_8 : decode cX10_both 8 = .ok (.bipush 110, 2) := by decide +kernel
theorem dX10_both_10 : decode cX10_both 10 = .ok (.bipush 100, 2) := by decide +kernel
theorem dX10_both_12 : decode cX10_both 12 = .ok (.iconst 0, 1) := by decide +kernel
theorem dX10_both_13 : decode cX10_both 13 = .ok (.iconst 0, 1) := by decide +kernel
theorem dX10_both_14 : decode cX10_both 14 = .ok (.iconst 0, 1) := by decide +kernel
theorem dX10_both_15 : decode cX10_both 15 = .ok (.iconst 0, 1) := by decide +kernel
theorem dX10_both_16 : decode cX10_both 16 = .ok (.iconst 0, 1) := by decide +kernel
theorem dX10_both_17 : decode cX10_both 17 = .ok (.invokevirtual 187, 3) := by decide +kernel
theorem dX10_both_20 : decode cX10_both 20 = .ok (.ifCond .eq 29, 3) := by decide +kernel
theorem dX10_both_23 : decode cX10_both 23 = .ok (.aload_n 0, 1) := by decide +kernel
theorem dX10_both_24 : decode cX10_both 24 = .ok (.invokevirtual 184, 3) := by decide +kernel
theorem dX10_both_27 : decode cX10_both 27 = .ok (.aload_n 0, 1) := by decide +kernel
theorem dX10_both_28 : decode cX10_both 28 = .ok (.invokevirtual 231, 3) := by decide +kernel
theorem dX10_both_31 : decode cX10_both 31 = .ok (.istore_n 2, 1) := by decide +kernel
theorem dX10_both_32 : decode cX10_both 32 = .ok (.iload_n 1, 1) := by decide +kernel
theorem dX10_both_33 : decode cX10_both 33 = .ok (.ifCond .eq 11, 3) := by decide +kernel
theorem dX10_both_36 : decode cX10_both 36 = .ok (.iload_n 2, 1) := by decide +kernel
theorem dX10_both_37 : decode cX10_both 37 = .ok (.ifCond .eq 7, 3) := by decide +kernel
theorem dX10_both_40 : decode cX10_both 40 = .ok (.iconst 1, 1) := by decide +kernel
theorem dX10_both_41 : decode cX10_both 41 = .ok (.goto 4, 3) := by decide +kernel
theorem dX10_both_44 : decode cX10_both 44 = .ok (.iconst 0, 1) := by decide +kernel
theorem dX10_both_45 : decode cX10_both 45 = .ok (.istore_n 1, 1) := by decide +kernel
theorem dX10_both_46 : decode cX10_both 46 = .ok (.goto (-41), 3) := by decide +kernel
theorem dX10_both_49 : decode cX10_both 49 = .ok (.iload_n 1, 1) := by decide +kernel
theorem dX10_both_50 : decode cX10_both 50 = .ok (.ireturn, 1) := by decide +kernel
theorem dX10_either_0 : decode cX10_either 0 = .ok (.aload_n 0, 1) := by decide +kernel
theorem dX10_either_1 : decode cX10_either 1 = .ok (.invokevirtual 239, 3) := by decide +kernel
theorem dX10_either_4 : decode cX10_either 4 = .ok (.istore_n 1, 1) := by decide +kernel
theorem dX10_either_5 : decode cX10_either 5 = .ok (.aload_n 0, 1) := by decide +kernel
theorem dX10_either_6 : decode cX10_either 6 = .ok (.bipush 111, 2) := by decide +kernel
theorem dX10_either_8 : decode cX10_either 8 = .ok (.bipush 114, 2) := by decide +kernel
theorem dX10_either_10 : decode cX10_either 10 = .ok (.iconst 0, 1) := by decide +kernel
theorem dX10_either_11 : decode cX10_either 11 = .ok (.iconst 0, 1) := by decide +kernel
theorem dX10_either_12 : decode cX10_either 12 = .ok (.iconst 0, 1) := by decide +kernel
theorem dX10_either_13 : decode cX10_either 13 = .ok (.iconst 0, 1) := by decide +kernel
theorem dX10_either_14 : decode cX10_either 14 = .ok (.iconst 0, 1) := by decide +kernel
theorem dX10_either_15 : decode cX10_either 15 = .ok (.iconst 0, 1) := by decide +kernel
theorem dX10_either_16 : decode cX10_either 16 = .ok (.invokevirtual 187, 3) := by decide +kernel
theorem dX10_either_19 : decode cX10_either 19 = .ok (.ifCond .eq 29, 3) := by decide +kernel
theorem dX10_either_22 : decode cX10_either 22 = .ok (.aload_n 0, 1) := by decide +kernel
theorem dX10_either_23 : decode cX10_either 23 = .ok (.invokevirtual 184, 3) := by decide +kernel
theorem dX10_either_26 : decode cX10_either 26 = .ok (.aload_n 0, 1) := by decide +kernel
theorem dX10_either_27 : decode cX10_either 27 = .ok (.invokevirtual 239, 3) := by decide +kernel
theorem dX10_either_30 : decode cX10_either 30 = .ok (.istore_n 2, 1) := by decide +kernel
theorem dX10_either_31 : decode cX10_either 31 = .ok (.iload_n 1, 1) := by decide +kernel
theorem dX10_either_32 : decode cX10_either 32 = .ok (.ifCond .ne 7, 3) := by decide +kernel
theorem dX10_either_35 : decode cX10_either 35 = .ok (.iload_n 2, 1) := by decide +kernel
theorem dX10_either_36 : decode cX10_either 36 = .ok (.ifCond .eq 7, 3) := by decide +kernel
theorem dX10_either_39 : decode cX10_either 39 = .ok (.iconst 1, 1) := by decide +kernel
theorem dX10_either_40 : decode cX10_either 40 = .ok (.goto 4, 3) := by decide +kernel
theorem dX10_either_43 : decode cX10_either 43 = .ok (.iconst 0, 1) := by decide +kernel
theorem dX10_either_44 : decode cX10_either 44 = .ok (.istore_n 1, 1) := by decide +kernel
theorem dX10_either_45 : decode cX10_either 45 = .ok (.goto (-40), 3) := by decide +kernel
theorem dX10_either_48 : decode cX10_either 48 = .ok (.iload_n 1, 1) := by decide +kernel
theorem dX10_either_49 : decode cX10_either 49 = .ok (.ireturn, 1) := by decide +kernel
theorem dX10_part_0 : decode cX10_part 0 = .ok (.iload_n 1, 1) := by decide +kernel
theorem dX10_part_1 : decode cX10_part 1 = .ok (.ifCond .ne 7, 3) := by decide +kernel
theorem dX10_part_4 : decode cX10_part 4 = .ok (.aload_n 0, 1) := by decide +kernel
theorem dX10_part_5 : decode cX10_part 5 = .ok (.invokevirtual 181, 3) := by decide +kernel
theorem dX10_part_8 : decode cX10_part 8 = .ok (.aload_n 0, 1) := by decide +kernel
theorem dX10_part_9 : decode cX10_part 9 = .ok (.getfield 167, 3) := by decide +kernel
theorem dX10_part_12 : decode cX10_part 12 = .ok (.ifCond .ne 7, 3) := by decide +kernel
theorem dX10_part_15 : decode cX10_part 15 = .ok (.aload_n 0, 1) := by decide +kernel
theorem dX10_part_16 : decode cX10_part 16 = .ok (.invokevirtual 184, 3) := by decide +kernel
theorem dX10_part_19 : decode cX10_part 19 = .ok (.aload_n 0, 1) := by decide +kernel
theorem dX10_part_20 : decode cX10_part 20 = .ok (.getfield 167, 3) := by decide +kernel
theorem dX10_part_23 : decode cX10_part 23 = .ok (.ifCond .eq 7, 3) := by decide +kernel
theorem dX10_part_26 : decode cX10_part 26 = .ok (.iconst 0, 1) := by decide +kernel
theorem dX10_part_27 : decode cX10_part 27 = .ok (.goto 7, 3) := by decide +kernel
theorem dX10_part_30 : decode cX10_part 30 = .ok (.aload_n 0, 1) := by decide +kernel
theorem dX10_part_31 : decode cX10_part 31 = .ok (.invokevirtual 220, 3) := by decide +kernel
theorem dX10_part_34 : decode cX10_part 34 = .ok (.istore_n 2, 1) := by decide +kernel
theorem dX10_part_35 : decode cX10_part 35 = .ok (.aload_n 0, 1) := by decide +kernel
theorem dX10_part_36 : decode cX10_part 36 = .ok (.bipush 59, 2) := by decide +kernel
theorem dX10_part_38 : decode cX10_part 38 = .ok (.invokevirtual 209, 3) := by decide +kernel
theorem dX10_part_41 : decode cX10_part 41 = .ok (.ifCond .ne 7, 3) := by decide +kernel
theorem dX10_part_44 : decode cX10_part 44 = .ok (.aload_n 0, 1) := by decide +kernel
theorem dX10_part_45 : decode cX10_part 45 = .ok (.invokevirtual 181, 3) := by decide +kernel
theorem dX10_part_48 : decode cX10_part 48 = .ok (.aload_n 0, 1) := by decide +kernel
theorem dX10_part_49 : decode cX10_part 49 = .ok (.getfield 167, 3) := by decide +kernel
theorem dX10_part_52 : decode cX10_part 52 = .ok (.ifCond .ne 7, 3) := by decide +kernel
theorem dX10_part_55 : decode cX10_part 55 = .ok (.aload_n 0, 1) := by decide +kernel
theorem dX10_part_56 : decode cX10_part 56 = .ok (.invokevirtual 184, 3) := by decide +kernel
theorem dX10_part_59 : decode cX10_part 59 = .ok (.iload_n 2, 1) := by decide +kernel
theorem dX10_part_60 : decode cX10_part 60 = .ok (.ireturn, 1) := by decide +kernel
theorem dX10_read_0 : decode cX10_read 0 = .ok (.aload_n 0, 1) := by decide +kernel
theorem dX10_read_1 : decode cX10_read 1 = .ok (.sipush 160, 3) := by decide +kernel
theorem dX10_read_4 : decode cX10_read 4 = .ok (.iload_n 1, 1) := by decide +kernel
theorem dX10_read_5 : decode cX10_read 5 = .ok (.imul, 1) := by decide +kernel
theorem dX10_read_6 : decode cX10_read 6 = .ok (.putfield 140, 3) := by decide +kernel
theorem dX10_read_9 : decode cX10_read 9 = .ok (.aload_n 0, 1) := by decide +kernel
theorem dX10_read_10 : decode cX10_read 10 = .ok (.aload_n 0, 1) := by decide +kernel
theorem dX10_read_11 : decode cX10_read 11 = .ok (.getfield 17, 3) := by decide +kernel
theorem dX10_read_14 : decode cX10_read 14 = .ok (.iload_n 1, 1) := by decide +kernel
theorem dX10_read_15 : decode cX10_read 15 = .ok (.iaload, 1) := by decide +kernel
theorem dX10_read_16 : decode cX10_read 16 = .ok (.putfield 137, 3) := by decide +kernel
theorem dX10_read_19 : decode cX10_read 19 = .ok (.aload_n 0, 1) := by decide +kernel
theorem dX10_read_20 : decode cX10_read 20 = .ok (.iconst 0, 1) := by decide +kernel
theorem dX10_read_21 : decode cX10_read 21 = .ok (.putfield 143, 3) := by decide +kernel
theorem dX10_read_24 : decode cX10_read 24 = .ok (.aload_n 0, 1) := by decide +kernel
theorem dX10_read_25 : decode cX10_read 25 = .ok (.iconst 0, 1) := by decide +kernel
theorem dX10_read_26 : decode cX10_read 26 = .ok (.putfield 178, 3) := by decide +kernel
theorem dX10_read_29 : decode cX10_read 29 = .ok (.aload_n 0, 1) := by decide +kernel
theorem dX10_read_30 : decode cX10_read 30 = .ok (.iconst 0, 1) := by decide +kernel
theorem dX10_read_31 : decode cX10_read 31 = .ok (.putfield 167, 3) := by decide +kernel
theorem dX10_read_34 : decode cX10_read 34 = .ok (.aload_n 0, 1) := by decide +kernel
theorem dX10_read_35 : decode cX10_read 35 = .ok (.invokevirtual 184, 3) := by decide +kernel
theorem dX10_read_38 : decode cX10_read 38 = .ok (.aload_n 0, 1) := by decide +kernel
theorem dX10_read_39 : decode cX10_read 39 = .ok (.aload_n 0, 1) := by decide +kernel
theorem dX10_read_40 : decode cX10_read 40 = .ok (.bipush 104, 2) := by decide +kernel
theorem dX10_read_42 : decode cX10_read 42 = .ok (.bipush 101, 2) := by decide +kernel
theorem dX10_read_44 : decode cX10_read 44 = .ok (.bipush 97, 2) := by decide +kernel
theorem dX10_read_46 : decode cX10_read 46 = .ok (.bipush 116, 2) := by decide +kernel
theorem dX10_read_48 : decode cX10_read 48 = .ok (.bipush 115, 2) := by decide +kernel
theorem dX10_read_50 : decode cX10_read 50 = .ok (.iconst 0, 1) := by decide +kernel
theorem dX10_read_51 : decode cX10_read 51 = .ok (.iconst 0, 1) := by decide +kernel
theorem dX10_read_52 : decode cX10_read 52 = .ok (.iconst 0, 1) := by decide +kernel
theorem dX10_read_53 : decode cX10_read 53 = .ok (.invokevirtual 187, 3) := by decide +kernel
theorem dX10_read_56 : decode cX10_read 56 = .ok (.invokevirtual 242, 3) := by decide +kernel
theorem dX10_read_59 : decode cX10_read 59 = .ok (.istore_n 3, 1) := by decide +kernel
theorem dX10_read_60 : decode cX10_read 60 = .ok (.aload_n 0, 1) := by decide +kernel
theorem dX10_read_61 : decode cX10_read 61 = .ok (.getfield 167, 3) := by decide +kernel
theorem dX10_read_64 : decode cX10_read 64 = .ok (.ifCond .eq 7, 3) := by decide +kernel
theorem dX10_read_67 : decode cX10_read 67 = .ok (.iconst 0, 1) := by decide +kernel
theorem dX10_read_68 : decode cX10_read 68 = .ok (.goto 24, 3) := by decide +kernel
theorem dX10_read_71 : decode cX10_read 71 = .ok (.aload_n 0, 1) := by decide +kernel
theorem dX10_read_72 : decode cX10_read 72 = .ok (.aload_n 0, 1) := by decide +kernel
theorem dX10_read_73 : decode cX10_read 73 = .ok (.bipush 99, 2) := by decide +kernel
theorem dX10_read_75 : decode cX10_read 75 = .ok (.bipush 97, 2) := by decide +kernel
theorem dX10_read_77 : decode cX10_read 77 = .ok (.bipush 108, 2) := by decide +kernel
theorem dX10_read_79 : decode cX10_read 79 = .ok (.bipush 109, 2) := by decide +kernel
theorem dX10_read_81 : decode cX10_read 81 = .ok (.bipush 115, 2) := by decide +kernel
theorem dX10_read_83 : decode cX10_read 83 = .ok (.iconst 0, 1) := by decide +kernel
theorem dX10_read_84 : decode cX10_read 84 = .ok (.iconst 0, 1) := by decide +kernel
theorem dX10_read_85 : decode cX10_read 85 = .ok (.iconst 0, 1) := by decide +kernel
theorem dX10_read_86 : decode cX10_read 86 = .ok (.invokevirtual 187, 3) := by decide +kernel
theorem dX10_read_89 : decode cX10_read 89 = .ok (.invokevirtual 242, 3) := by decide +kernel
theorem dX10_read_92 : decode cX10_read 92 = .ok (.istore 4, 2) := by decide +kernel
theorem dX10_read_94 : decode cX10_read 94 = .ok (.aload_n 0, 1) := by decide +kernel
theorem dX10_read_95 : decode cX10_read 95 = .ok (.getfield 167, 3) := by decide +kernel
theorem dX10_read_98 : decode cX10_read 98 = .ok (.ifCond .eq 7, 3) := by decide +kernel
theorem dX10_read_101 : decode cX10_read 101 = .ok (.iconst 0, 1) := by decide +kernel
theorem dX10_read_102 : decode cX10_read 102 = .ok (.goto 24, 3) := by decide +kernel
theorem dX10_read_105 : decode cX10_read 105 = .ok (.aload_n 0, 1) := by decide +kernel
theorem dX10_read_106 : decode cX10_read 106 = .ok (.aload_n 0, 1) := by decide +kernel
theorem dX10_read_107 : decode cX10_read 107 = .ok (.bipush 102, 2) := by decide +kernel
theorem dX10_read_109 : decode cX10_read 109 = .ok (.bipush 101, 2) := by decide +kernel
theorem dX10_read_111 : decode cX10_read 111 = .ok (.bipush 101, 2) := by decide +kernel
theorem dX10_read_113 : decode cX10_read 113 = .ok (.bipush 108, 2) := by decide +kernel
theorem dX10_read_115 : decode cX10_read 115 = .ok (.bipush 115, 2) := by decide +kernel
theorem dX10_read_117 : decode cX10_read 117 = .ok (.iconst 0, 1) := by decide +kernel
theorem dX10_read_118 : decode cX10_read 118 = .ok (.iconst 0, 1) := by decide +kernel
theorem dX10_read_119 : decode cX10_read 119 = .ok (.iconst 0, 1) := by decide +kernel
theorem dX10_read_120 : decode cX10_read 120 = .ok (.invokevirtual 187, 3) := by decide +kernel
theorem dX10_read_123 : decode cX10_read 123 = .ok (.invokevirtual 242, 3) := by decide +kernel
theorem dX10_read_126 : decode cX10_read 126 = .ok (.istore 5, 2) := by decide +kernel
theorem dX10_read_128 : decode cX10_read 128 = .ok (.aload_n 0, 1) := by decide +kernel
theorem dX10_read_129 : decode cX10_read 129 = .ok (.getfield 167, 3) := by decide +kernel
theorem dX10_read_132 : decode cX10_read 132 = .ok (.ifCond .ne 14, 3) := by decide +kernel
theorem dX10_read_135 : decode cX10_read 135 = .ok (.aload_n 0, 1) := by decide +kernel
theorem dX10_read_136 : decode cX10_read 136 = .ok (.getfield 152, 3) := by decide +kernel
theorem dX10_read_139 : decode cX10_read 139 = .ok (.ifCond .eq 7, 3) := by decide +kernel
theorem dX10_read_142 : decode cX10_read 142 = .ok (.aload_n 0, 1) := by decide +kernel
theorem dX10_read_143 : decode cX10_read 143 = .ok (.invokevirtual 181, 3) := by decide +kernel
theorem dX10_read_146 : decode cX10_read 146 = .ok (.iload_n 2, 1) := by decide +kernel
theorem dX10_read_147 : decode cX10_read 147 = .ok (.ifCond .ne 7, 3) := by decide +kernel
theorem dX10_read_150 : decode cX10_read 150 = .ok (.iload_n 3, 1) := by decide +kernel
theorem dX10_read_151 : decode cX10_read 151 = .ok (.goto 15, 3) := by decide +kernel
theorem dX10_read_154 : decode cX10_read 154 = .ok (.iload_n 2, 1) := by decide +kernel
theorem dX10_read_155 : decode cX10_read 155 = .ok (.iconst 1, 1) := by decide +kernel
theorem dX10_read_156 : decode cX10_read 156 = .ok (.if_icmp .ne 8, 3) := by decide +kernel
theorem dX10_read_159 : decode cX10_read 159 = .ok (.iload 4, 2) := by decide +kernel
theorem dX10_read_161 : decode cX10_read 161 = .ok (.goto 5, 3) := by decide +kernel
theorem dX10_read_164 : decode cX10_read 164 = .ok (.iload 5, 2) := by decide +kernel
theorem dX10_read_166 : decode cX10_read 166 = .ok (.ireturn, 1) := by decide +kernel
theorem dX10_text_0 : decode cX10_text 0 = .ok (.aload_n 0, 1) := by decide +kernel
theorem dX10_text_1 : decode cX10_text 1 = .ok (.getfield 73, 3) := by decide +kernel
theorem dX10_text_4 : decode cX10_text 4 = .ok (.bipush 6, 2) := by decide +kernel
theorem dX10_text_6 : decode cX10_text 6 = .ok (.if_icmp .ne 6, 3) := by decide +kernel
theorem dX10_text_9 : decode cX10_text 9 = .ok (.bipush (-4), 2) := by decide +kernel
theorem dX10_text_11 : decode cX10_text 11 = .ok (.ireturn, 1) := by decide +kernel
theorem dX10_text_12 : decode cX10_text 12 = .ok (.iconst 0, 1) := by decide +kernel
theorem dX10_text_13 : decode cX10_text 13 = .ok (.istore_n 1, 1) := by decide +kernel
theorem dX10_text_14 : decode cX10_text 14 = .ok (.iload_n 1, 1) := by decide +kernel
theorem dX10_text_15 : decode cX10_text 15 = .ok (.aload_n 0, 1) := by decide +kernel
theorem dX10_text_16 : decode cX10_text 16 = .ok (.getfield 134, 3) := by decide +kernel
theorem dX10_text_19 : decode cX10_text 19 = .ok (.if_icmp .ge 30, 3) := by decide +kernel
theorem dX10_text_22 : decode cX10_text 22 = .ok (.aload_n 0, 1) := by decide +kernel
theorem dX10_text_23 : decode cX10_text 23 = .ok (.getfield 13, 3) := by decide +kernel
theorem dX10_text_26 : decode cX10_text 26 = .ok (.sipush 160, 3) := by decide +kernel
theorem dX10_text_29 : decode cX10_text 29 = .ok (.aload_n 0, 1) := by decide +kernel
theorem dX10_text_30 : decode cX10_text 30 = .ok (.getfield 73, 3) := by decide +kernel
theorem dX10_text_33 : decode cX10_text 33 = .ok (.imul, 1) := by decide +kernel
theorem dX10_text_34 : decode cX10_text 34 = .ok (.iload_n 1, 1) := by decide +kernel
theorem dX10_text_35 : decode cX10_text 35 = .ok (.iadd, 1) := by decide +kernel
theorem dX10_text_36 : decode cX10_text 36 = .ok (.aload_n 0, 1) := by decide +kernel
theorem dX10_text_37 : decode cX10_text 37 = .ok (.getfield 20, 3) := by decide +kernel
theorem dX10_text_40 : decode cX10_text 40 = .ok (.iload_n 1, 1) := by decide +kernel
theorem dX10_text_41 : decode cX10_text 41 = .ok (.iaload, 1) := by decide +kernel
theorem dX10_text_42 : decode cX10_text 42 = .ok (.iastore, 1) := by decide +kernel
theorem dX10_text_43 : decode cX10_text 43 = .ok (.iinc 1 1, 3) := by decide +kernel
theorem dX10_text_46 : decode cX10_text 46 = .ok (.goto (-32), 3) := by decide +kernel
theorem dX10_text_49 : decode cX10_text 49 = .ok (.aload_n 0, 1) := by decide +kernel
theorem dX10_text_50 : decode cX10_text 50 = .ok (.getfield 17, 3) := by decide +kernel
theorem dX10_text_53 : decode cX10_text 53 = .ok (.aload_n 0, 1) := by decide +kernel
theorem dX10_text_54 : decode cX10_text 54 = .ok (.getfield 73, 3) := by decide +kernel
theorem dX10_text_57 : decode cX10_text 57 = .ok (.aload_n 0, 1) := by decide +kernel
theorem dX10_text_58 : decode cX10_text 58 = .ok (.getfield 134, 3) := by decide +kernel
theorem dX10_text_61 : decode cX10_text 61 = .ok (.iastore, 1) := by decide +kernel
theorem dX10_text_62 : decode cX10_text 62 = .ok (.aload_n 0, 1) := by decide +kernel
theorem dX10_text_63 : decode cX10_text 63 = .ok (.iconst 0, 1) := by decide +kernel
theorem dX10_text_64 : decode cX10_text 64 = .ok (.putfield 134, 3) := by decide +kernel
theorem dX10_text_67 : decode cX10_text 67 = .ok (.aload_n 0, 1) := by decide +kernel
theorem dX10_text_68 : decode cX10_text 68 = .ok (.aload_n 0, 1) := by decide +kernel
theorem dX10_text_69 : decode cX10_text 69 = .ok (.getfield 73, 3) := by decide +kernel
theorem dX10_text_72 : decode cX10_text 72 = .ok (.iconst 0, 1) := by decide +kernel
theorem dX10_text_73 : decode cX10_text 73 = .ok (.invokevirtual 246, 3) := by decide +kernel
theorem dX10_text_76 : decode cX10_text 76 = .ok (.istore_n 1, 1) := by decide +kernel
theorem dX10_text_77 : decode cX10_text 77 = .ok (.aload_n 0, 1) := by decide +kernel
theorem dX10_text_78 : decode cX10_text 78 = .ok (.getfield 167, 3) := by decide +kernel
theorem dX10_text_81 : decode cX10_text 81 = .ok (.ifCond .eq 11, 3) := by decide +kernel
theorem dX10_text_84 : decode cX10_text 84 = .ok (.bipush (-100), 2) := by decide +kernel
theorem dX10_text_86 : decode cX10_text 86 = .ok (.aload_n 0, 1) := by decide +kernel
theorem dX10_text_87 : decode cX10_text 87 = .ok (.getfield 171, 3) := by decide +kernel
theorem dX10_text_90 : decode cX10_text 90 = .ok (.isub, 1) := by decide +kernel
theorem dX10_text_91 : decode cX10_text 91 = .ok (.ireturn, 1) := by decide +kernel
theorem dX10_text_92 : decode cX10_text 92 = .ok (.aload_n 0, 1) := by decide +kernel
theorem dX10_text_93 : decode cX10_text 93 = .ok (.dup, 1) := by decide +kernel
theorem dX10_text_94 : decode cX10_text 94 = .ok (.getfield 73, 3) := by decide +kernel
theorem dX10_text_97 : decode cX10_text 97 = .ok (.iconst 1, 1) := by decide +kernel
theorem dX10_text_98 : decode cX10_text 98 = .ok (.iadd, 1) := by decide +kernel
theorem dX10_text_99 : decode cX10_text 99 = .ok (.putfield 73, 3) := by decide +kernel
theorem dX10_text_102 : decode cX10_text 102 = .ok (.aload_n 0, 1) := by decide +kernel
theorem dX10_text_103 : decode cX10_text 103 = .ok (.getfield 73, 3) := by decide +kernel
theorem dX10_text_106 : decode cX10_text 106 = .ok (.iconst 1, 1) := by decide +kernel
theorem dX10_text_107 : decode cX10_text 107 = .ok (.isub, 1) := by decide +kernel
theorem dX10_text_108 : decode cX10_text 108 = .ok (.ireturn, 1) := by decide +kernel
theorem dX10_force_0 : decode cX10_force 0 = .ok (.iload_n 1, 1) := by decide +kernel
theorem dX10_force_1 : decode cX10_force 1 = .ok (.i2l, 1) := by decide +kernel
theorem dX10_force_2 : decode cX10_force 2 = .ok (.lconst 0, 1) := by decide +kernel
theorem dX10_force_3 : decode cX10_force 3 = .ok (.aload_n 0, 1) := by decide +kernel
theorem dX10_force_4 : decode cX10_force 4 = .ok (.getfield 73, 3) := by decide +kernel
theorem dX10_force_7 : decode cX10_force 7 = .ok (.iconst 1, 1) := by decide +kernel
theorem dX10_force_8 : decode cX10_force 8 = .ok (.isub, 1) := by decide +kernel
theorem dX10_force_9 : decode cX10_force 9 = .ok (.i2l, 1) := by decide +kernel
theorem dX10_force_10 : decode cX10_force 10 = .ok (.invokestatic 79, 3) := by decide +kernel
theorem dX10_force_13 : decode cX10_force 13 = .ok (.ifCond .ne 6, 3) := by decide +kernel
theorem dX10_force_16 : decode cX10_force 16 = .ok (.bipush (-2), 2) := by decide +kernel
theorem dX10_force_18 : decode cX10_force 18 = .ok (.ireturn, 1) := by decide +kernel
theorem dX10_force_19 : decode cX10_force 19 = .ok (.aload_n 0, 1) := by decide +kernel
theorem dX10_force_20 : decode cX10_force 20 = .ok (.getfield 104, 3) := by decide +kernel
theorem dX10_force_23 : decode cX10_force 23 = .ok (.istore_n 2, 1) := by decide +kernel
theorem dX10_force_24 : decode cX10_force 24 = .ok (.aload_n 0, 1) := by decide +kernel
theorem dX10_force_25 : decode cX10_force 25 = .ok (.iload_n 1, 1) := by decide +kernel
theorem dX10_force_26 : decode cX10_force 26 = .ok (.putfield 104, 3) := by decide +kernel
theorem dX10_force_29 : decode cX10_force 29 = .ok (.iload_n 2, 1) := by decide +kernel
theorem dX10_force_30 : decode cX10_force 30 = .ok (.ireturn, 1) := by decide +kernel
theorem dX10_says_0 : decode cX10_says 0 = .ok (.aload_n 0, 1) := by decide +kernel
theorem dX10_says_1 : decode cX10_says 1 = .ok (.aload_n 0, 1) := by decide +kernel
theorem dX10_says_2 : decode cX10_says 2 = .ok (.iload_n 3, 1) := by decide +kernel
theorem dX10_says_3 : decode cX10_says 3 = .ok (.invokevirtual 119, 3) := by decide +kernel
theorem dX10_says_6 : decode cX10_says 6 = .ok (.putfield 191, 3) := by decide +kernel
theorem dX10_says_9 : decode cX10_says 9 = .ok (.aload_n 0, 1) := by decide +kernel
theorem dX10_says_10 : decode cX10_says 10 = .ok (.iload_n 1, 1) := by decide +kernel
theorem dX10_says_11 : decode cX10_says 11 = .ok (.iconst 2, 1) := by decide +kernel
theorem dX10_says_12 : decode cX10_says 12 = .ok (.if_icmp .ne 7, 3) := by decide +kernel
theorem dX10_says_15 : decode cX10_says 15 = .ok (.iconst 0, 1) := by decide +kernel
theorem dX10_says_16 : decode cX10_says 16 = .ok (.goto 5, 3) := by decide +kernel
theorem dX10_says_19 : decode cX10_says 19 = .ok (.iload 4, 2) := by decide +kernel
theorem dX10_says_21 : decode cX10_says 21 = .ok (.putfield 194, 3) := by decide +kernel
theorem dX10_says_24 : decode cX10_says 24 = .ok (.aload_n 0, 1) := by decide +kernel
theorem dX10_says_25 : decode cX10_says 25 = .ok (.aload_n 0, 1) := by decide +kernel
theorem dX10_says_26 : decode cX10_says 26 = .ok (.getfield 29, 3) := by decide +kernel
theorem dX10_says_29 : decode cX10_says 29 = .ok (.iconst 3, 1) := by decide +kernel
theorem dX10_says_30 : decode cX10_says 30 = .ok (.iload_n 2, 1) := by decide +kernel
theorem dX10_says_31 : decode cX10_says 31 = .ok (.imul, 1) := by decide +kernel
theorem dX10_says_32 : decode cX10_says 32 = .ok (.iaload, 1) := by decide +kernel
theorem dX10_says_33 : decode cX10_says 33 = .ok (.putfield 197, 3) := by decide +kernel
theorem dX10_says_36 : decode cX10_says 36 = .ok (.aload_n 0, 1) := by decide +kernel
theorem dX10_says_37 : decode cX10_says 37 = .ok (.iload_n 1, 1) := by decide +kernel
theorem dX10_says_38 : decode cX10_says 38 = .ok (.iconst 2, 1) := by decide +kernel
theorem dX10_says_39 : decode cX10_says 39 = .ok (.if_icmp .ne 7, 3) := by decide +kernel
theorem dX10_says_42 : decode cX10_says 42 = .ok (.iconst 0, 1) := by decide +kernel
theorem dX10_says_43 : decode cX10_says 43 = .ok (.goto 7, 3) := by decide +kernel
theorem dX10_says_46 : decode cX10_says 46 = .ok (.aload_n 0, 1) := by decide +kernel
theorem dX10_says_47 : decode cX10_says 47 = .ok (.getfield 101, 3) := by decide +kernel
theorem dX10_says_50 : decode cX10_says 50 = .ok (.putfield 200, 3) := by decide +kernel
theorem dX10_says_53 : decode cX10_says 53 = .ok (.aload_n 0, 1) := by decide +kernel
theorem dX10_says_54 : decode cX10_says 54 = .ok (.iload_n 1, 1) := by decide +kernel
theorem dX10_says_55 : decode cX10_says 55 = .ok (.iconst 2, 1) := by decide +kernel
theorem dX10_says_56 : decode cX10_says 56 = .ok (.if_icmp .ne 7, 3) := by decide +kernel
theorem dX10_says_59 : decode cX10_says 59 = .ok (.iconst 0, 1) := by decide +kernel
theorem dX10_says_60 : decode cX10_says 60 = .ok (.goto 4, 3) := by decide +kernel
theorem dX10_says_63 : decode cX10_says 63 = .ok (.iload_n 3, 1) := by decide +kernel
theorem dX10_says_64 : decode cX10_says 64 = .ok (.putfield 203, 3) := by decide +kernel
theorem dX10_says_67 : decode cX10_says 67 = .ok (.aload_n 0, 1) := by decide +kernel
theorem dX10_says_68 : decode cX10_says 68 = .ok (.iload_n 1, 1) := by decide +kernel
theorem dX10_says_69 : decode cX10_says 69 = .ok (.iconst 2, 1) := by decide +kernel
theorem dX10_says_70 : decode cX10_says 70 = .ok (.if_icmp .eq 12, 3) := by decide +kernel
theorem dX10_says_73 : decode cX10_says 73 = .ok (.iload_n 3, 1) := by decide +kernel
theorem dX10_says_74 : decode cX10_says 74 = .ok (.iload_n 2, 1) := by decide +kernel
theorem dX10_says_75 : decode cX10_says 75 = .ok (.if_icmp .ne 7, 3) := by decide +kernel
theorem dX10_says_78 : decode cX10_says 78 = .ok (.iconst 1, 1) := by decide +kernel
theorem dX10_says_79 : decode cX10_says 79 = .ok (.goto 4, 3) := by decide +kernel
theorem dX10_says_82 : decode cX10_says 82 = .ok (.iconst 0, 1) := by decide +kernel
theorem dX10_says_83 : decode cX10_says 83 = .ok (.putfield 206, 3) := by decide +kernel
theorem dX10_says_86 : decode cX10_says 86 = .ok (.aload_n 0, 1) := by decide +kernel
theorem dX10_says_87 : decode cX10_says 87 = .ok (.aload_n 0, 1) := by decide +kernel
theorem dX10_says_88 : decode cX10_says 88 = .ok (.getfield 104, 3) := by decide +kernel
theorem dX10_says_91 : decode cX10_says 91 = .ok (.iload_n 1, 1) := by decide +kernel
theorem dX10_says_92 : decode cX10_says 92 = .ok (.invokevirtual 246, 3) := by decide +kernel
theorem dX10_says_95 : decode cX10_says 95 = .ok (.iconst 0, 1) := by decide +kernel
theorem dX10_says_96 : decode cX10_says 96 = .ok (.bipush 99, 2) := by decide +kernel
theorem dX10_says_98 : decode cX10_says 98 = .ok (.invokestatic 249, 3) := by decide +kernel
theorem dX10_says_101 : decode cX10_says 101 = .ok (.ireturn, 1) := by decide +kernel
theorem dX10_heatsOf_0 : decode cX10_heatsOf 0 = .ok (.aload_n 0, 1) := by decide +kernel
theorem dX10_heatsOf_1 : decode cX10_heatsOf 1 = .ok (.getfield 26, 3) := by decide +kernel
theorem dX10_heatsOf_4 : decode cX10_heatsOf 4 = .ok (.iload_n 1, 1) := by decide +kernel
theorem dX10_heatsOf_5 : decode cX10_heatsOf 5 = .ok (.iaload, 1) := by decide +kernel
theorem dX10_heatsOf_6 : decode cX10_heatsOf 6 = .ok (.istore 4, 2) := by decide +kernel
theorem dX10_heatsOf_8 : decode cX10_heatsOf 8 = .ok (.aload_n 0, 1) := by decide +kernel
theorem dX10_heatsOf_9 : decode cX10_heatsOf 9 = .ok (.iconst 0, 1) := by decide +kernel
theorem dX10_heatsOf_10 : decode cX10_heatsOf 10 = .ok (.iload_n 1, 1) := by decide +kernel
theorem dX10_heatsOf_11 : decode cX10_heatsOf 11 = .ok (.iload_n 2, 1) := by decide +kernel
theorem dX10_heatsOf_12 : decode cX10_heatsOf 12 = .ok (.iload_n 3, 1) := by decide +kernel
theorem dX10_heatsOf_13 : decode cX10_heatsOf 13 = .ok (.invokevirtual 252, 3) := by decide +kernel
theorem dX10_heatsOf_16 : decode cX10_heatsOf 16 = .ok (.istore 5, 2) := by decide +kernel
theorem dX10_heatsOf_18 : decode cX10_heatsOf 18 = .ok (.iload 4, 2) := by decide +kernel
theorem dX10_heatsOf_20 : decode cX10_heatsOf 20 = .ok (.iconst 1, 1) := by decide +kernel
theorem dX10_heatsOf_21 : decode cX10_heatsOf 21 = .ok (.if_icmp .ne 10, 3) := by decide +kernel
theorem dX10_heatsOf_24 : decode cX10_heatsOf 24 = .ok (.iload 5, 2) := by decide +kernel
theorem dX10_heatsOf_26 : decode cX10_heatsOf 26 = .ok (.iconst 3, 1) := by decide +kernel
theorem dX10_heatsOf_27 : decode cX10_heatsOf 27 = .ok (.iadd, 1) := by decide +kernel
theorem dX10_heatsOf_28 : decode cX10_heatsOf 28 = .ok (.goto 80, 3) := by decide +kernel
theorem dX10_heatsOf_31 : decode cX10_heatsOf 31 = .ok (.iload 4, 2) := by decide +kernel
theorem dX10_heatsOf_33 : decode cX10_heatsOf 33 = .ok (.iconst 3, 1) := by decide +kernel
theorem dX10_heatsOf_34 : decode cX10_heatsOf 34 = .ok (.if_icmp .ne 24, 3) := by decide +kernel
theorem dX10_heatsOf_37 : decode cX10_heatsOf 37 = .ok (.aload_n 0, 1) := by decide +kernel
theorem dX10_heatsOf_38 : decode cX10_heatsOf 38 = .ok (.getfield 101, 3) := by decide +kernel
theorem dX10_heatsOf_41 : decode cX10_heatsOf 41 = .ok (.iconst 4, 1) := by decide +kernel
theorem dX10_heatsOf_42 : decode cX10_heatsOf 42 = .ok (.irem, 1) := by decide +kernel
theorem dX10_heatsOf_43 : decode cX10_heatsOf 43 = .ok (.iconst 1, 1) := by decide +kernel
theorem dX10_heatsOf_44 : decode cX10_heatsOf 44 = .ok (.if_icmp .ne 7, 3) := by decide +kernel
theorem dX10_heatsOf_47 : decode cX10_heatsOf 47 = .ok (.iconst 0, 1) := by decide +kernel
theorem dX10_heatsOf_48 : decode cX10_heatsOf 48 = .ok (.goto 60, 3) := by decide +kernel
theorem dX10_heatsOf_51 : decode cX10_heatsOf 51 = .ok (.iload 5, 2) := by decide +kernel
theorem dX10_heatsOf_53 : decode cX10_heatsOf 53 = .ok (.iconst 3, 1) := by decide +kernel
theorem dX10_heatsOf_54 : decode cX10_heatsOf 54 = .ok (.iadd, 1) := by decide +kernel
theorem dX10_heatsOf_55 : decode cX10_heatsOf 55 = .ok (.goto 53, 3) := by decide +kernel
theorem dX10_heatsOf_58 : decode cX10_heatsOf 58 = .ok (.iload 4, 2) := by decide +kernel
theorem dX10_heatsOf_60 : decode cX10_heatsOf 60 = .ok (.iconst 2, 1) := by decide +kernel
theorem dX10_heatsOf_61 : decode cX10_heatsOf 61 = .ok (.if_icmp .ne 10, 3) := by decide +kernel
theorem dX10_heatsOf_64 : decode cX10_heatsOf 64 = .ok (.iload 5, 2) := by decide +kernel
theorem dX10_heatsOf_66 : decode cX10_heatsOf 66 = .ok (.iconst 2, 1) := by decide +kernel
theorem dX10_heatsOf_67 : decode cX10_heatsOf 67 = .ok (.idiv, 1) := by decide +kernel
theorem dX10_heatsOf_68 : decode cX10_heatsOf 68 = .ok (.goto 40, 3) := by decide +kernel
theorem dX10_heatsOf_71 : decode cX10_heatsOf 71 = .ok (.iload 4, 2) := by decide +kernel
theorem dX10_heatsOf_73 : decode cX10_heatsOf 73 = .ok (.iconst 4, 1) := by decide +kernel
theorem dX10_heatsOf_74 : decode cX10_heatsOf 74 = .ok (.if_icmp .ne 19, 3) := by decide +kernel
theorem dX10_heatsOf_77 : decode cX10_heatsOf 77 = .ok (.iload 5, 2) := by decide +kernel
theorem dX10_heatsOf_79 : decode cX10_heatsOf 79 = .ok (.iconst 2, 1) := by decide +kernel
theorem dX10_heatsOf_80 : decode cX10_heatsOf 80 = .ok (.idiv, 1) := by decide +kernel
theorem dX10_heatsOf_81 : decode cX10_heatsOf 81 = .ok (.aload_n 0, 1) := by decide +kernel
theorem dX10_heatsOf_82 : decode cX10_heatsOf 82 = .ok (.getfield 29, 3) := by decide +kernel
theorem dX10_heatsOf_85 : decode cX10_heatsOf 85 = .ok (.iconst 3, 1) := by decide +kernel
theorem dX10_heatsOf_86 : decode cX10_heatsOf 86 = .ok (.iload_n 1, 1) := by decide +kernel
theorem dX10_heatsOf_87 : decode cX10_heatsOf 87 = .ok (.imul, 1) := by decide +kernel
theorem dX10_heatsOf_88 : decode cX10_heatsOf 88 = .ok (.iaload, 1) := by decide +kernel
theorem dX10_heatsOf_89 : decode cX10_heatsOf 89 = .ok (.isub, 1) := by decide +kernel
theorem dX10_heatsOf_90 : decode cX10_heatsOf 90 = .ok (.goto 18, 3) := by decide +kernel
theorem dX10_heatsOf_93 : decode cX10_heatsOf 93 = .ok (.iload 4, 2) := by decide +kernel
theorem dX10_heatsOf_95 : decode cX10_heatsOf 95 = .ok (.iconst 5, 1) := by decide +kernel
theorem dX10_heatsOf_96 : decode cX10_heatsOf 96 = .ok (.if_icmp .ne 10, 3) := by decide +kernel
theorem dX10_heatsOf_99 : decode cX10_heatsOf 99 = .ok (.iconst 2, 1) := by decide +kernel
theorem dX10_heatsOf_100 : decode cX10_heatsOf 100 = .ok (.iload 5, 2) := by decide +kernel
theorem dX10_heatsOf_102 : decode cX10_heatsOf 102 = .ok (.imul, 1) := by decide +kernel
theorem dX10_heatsOf_103 : decode cX10_heatsOf 103 = .ok (.goto 5, 3) := by decide +kernel
theorem dX10_heatsOf_106 : decode cX10_heatsOf 106 = .ok (.iload 5, 2) := by decide +kernel
theorem dX10_heatsOf_108 : decode cX10_heatsOf 108 = .ok (.istore 6, 2) := by decide +kernel
theorem dX10_heatsOf_110 : decode cX10_heatsOf 110 = .ok (.iload 6, 2) := by decide +kernel
theorem dX10_heatsOf_112 : decode cX10_heatsOf 112 = .ok (.iconst 0, 1) := by decide +kernel
theorem dX10_heatsOf_113 : decode cX10_heatsOf 113 = .ok (.bipush 99, 2) := by decide +kernel
theorem dX10_heatsOf_115 : decode cX10_heatsOf 115 = .ok (.invokestatic 249, 3) := by decide +kernel
theorem dX10_heatsOf_118 : decode cX10_heatsOf 118 = .ok (.ireturn, 1) := by decide +kernel
theorem dX10_calmsOf_0 : decode cX10_calmsOf 0 = .ok (.aload_n 0, 1) := by decide +kernel
theorem dX10_calmsOf_1 : decode cX10_calmsOf 1 = .ok (.getfield 26, 3) := by decide +kernel
theorem dX10_calmsOf_4 : decode cX10_calmsOf 4 = .ok (.iload_n 1, 1) := by decide +kernel
theorem dX10_calmsOf_5 : decode cX10_calmsOf 5 = .ok (.iaload, 1) := by decide +kernel
theorem dX10_calmsOf_6 : decode cX10_calmsOf 6 = .ok (.istore 4, 2) := by decide +kernel
theorem dX10_calmsOf_8 : decode cX10_calmsOf 8 = .ok (.aload_n 0, 1) := by decide +kernel
theorem dX10_calmsOf_9 : decode cX10_calmsOf 9 = .ok (.iload_n 2, 1) := by decide +kernel
theorem dX10_calmsOf_10 : decode cX10_calmsOf 10 = .ok (.invokevirtual 119, 3) := by decide +kernel
theorem dX10_calmsOf_13 : decode cX10_calmsOf 13 = .ok (.istore 5, 2) := by decide +kernel
theorem dX10_calmsOf_15 : decode cX10_calmsOf 15 = .ok (.aload_n 0, 1) := by decide +kernel
theorem dX10_calmsOf_16 : decode cX10_calmsOf 16 = .ok (.iconst 1, 1) := by decide +kernel
theorem dX10_calmsOf_17 : decode cX10_calmsOf 17 = .ok (.iload_n 1, 1) := by decide +kernel
theorem dX10_calmsOf_18 : decode cX10_calmsOf 18 = .ok (.iload_n 2, 1) := by decide +kernel
theorem dX10_calmsOf_19 : decode cX10_calmsOf 19 = .ok (.iload_n 3, 1) := by decide +kernel
theorem dX10_calmsOf_20 : decode cX10_calmsOf 20 = .ok (.invokevirtual 252, 3) := by decide +kernel
theorem dX10_calmsOf_23 : decode cX10_calmsOf 23 = .ok (.istore 6, 2) := by decide +kernel
theorem dX10_calmsOf_25 : decode cX10_calmsOf 25 = .ok (.iload 5, 2) := by decide +kernel
theorem dX10_calmsOf_27 : decode cX10_calmsOf 27 = .ok (.iconst 2, 1) := by decide +kernel
theorem dX10_calmsOf_28 : decode cX10_calmsOf 28 = .ok (.irem, 1) := by decide +kernel
theorem dX10_calmsOf_29 : decode cX10_calmsOf 29 = .ok (.ifCond .ne 8, 3) := by decide +kernel
theorem dX10_calmsOf_32 : decode cX10_calmsOf 32 = .ok (.iload 6, 2) := by decide +kernel
theorem dX10_calmsOf_34 : decode cX10_calmsOf 34 = .ok (.goto 7, 3) := by decide +kernel
theorem dX10_calmsOf_37 : decode cX10_calmsOf 37 = .ok (.iload 6, 2) := by decide +kernel
theorem dX10_calmsOf_39 : decode cX10_calmsOf 39 = .ok (.iconst 2, 1) := by decide +kernel
theorem dX10_calmsOf_40 : decode cX10_calmsOf 40 = .ok (.idiv, 1) := by decide +kernel
theorem dX10_calmsOf_41 : decode cX10_calmsOf 41 = .ok (.istore 7, 2) := by decide +kernel
theorem dX10_calmsOf_43 : decode cX10_calmsOf 43 = .ok (.iload 4, 2) := by decide +kernel
theorem dX10_calmsOf_45 : decode cX10_calmsOf 45 = .ok (.iconst 1, 1) := by decide +kernel
theorem dX10_calmsOf_46 : decode cX10_calmsOf 46 = .ok (.if_icmp .ne 8, 3) := by decide +kernel
theorem dX10_calmsOf_49 : decode cX10_calmsOf 49 = .ok (.iload 7, 2) := by decide +kernel
theorem dX10_calmsOf_51 : decode cX10_calmsOf 51 = .ok (.goto 80, 3) := by decide +kernel
theorem dX10_calmsOf_54 : decode cX10_calmsOf 54 = .ok (.iload 4, 2) := by decide +kernel
theorem dX10_calmsOf_56 : decode cX10_calmsOf 56 = .ok (.iconst 3, 1) := by decide +kernel
theorem dX10_calmsOf_57 : decode cX10_calmsOf 57 = .ok (.if_icmp .ne 17, 3) := by decide +kernel
theorem dX10_calmsOf_60 : decode cX10_calmsOf 60 = .ok (.iload 7, 2) := by decide +kernel
theorem dX10_calmsOf_62 : decode cX10_calmsOf 62 = .ok (.aload_n 0, 1) := by decide +kernel
theorem dX10_calmsOf_63 : decode cX10_calmsOf 63 = .ok (.getfield 29, 3) := by decide +kernel
theorem dX10_calmsOf_66 : decode cX10_calmsOf 66 = .ok (.iconst 3, 1) := by decide +kernel
theorem dX10_calmsOf_67 : decode cX10_calmsOf 67 = .ok (.iload_n 1, 1) := by decide +kernel
theorem dX10_calmsOf_68 : decode cX10_calmsOf 68 = .ok (.imul, 1) := by decide +kernel
theorem dX10_calmsOf_69 : decode cX10_calmsOf 69 = .ok (.iaload, 1) := by decide +kernel
theorem dX10_calmsOf_70 : decode cX10_calmsOf 70 = .ok (.iadd, 1) := by decide +kernel
theorem dX10_calmsOf_71 : decode cX10_calmsOf 71 = .ok (.goto 60, 3) := by decide +kernel
theorem dX10_calmsOf_74 : decode cX10_calmsOf 74 = .ok (.iload 4, 2) := by decide +kernel
theorem dX10_calmsOf_76 : decode cX10_calmsOf 76 = .ok (.iconst 2, 1) := by decide +kernel
theorem dX10_calmsOf_77 : decode cX10_calmsOf 77 = .ok (.if_icmp .ne 10, 3) := by decide +kernel
theorem dX10_calmsOf_80 : decode cX10_calmsOf 80 = .ok (.iload 6, 2) := by decide +kernel
theorem dX10_calmsOf_82 : decode cX10_calmsOf 82 = .ok (.iconst 2, 1) := by decide +kernel
theorem dX10_calmsOf_83 : decode cX10_calmsOf 83 = .ok (.iadd, 1) := by decide +kernel
theorem dX10_calmsOf_84 : decode cX10_calmsOf 84 = .ok (.goto 47, 3) := by decide +kernel
theorem dX10_calmsOf_87 : decode cX10_calmsOf 87 = .ok (.iload 4, 2) := by decide +kernel
theorem dX10_calmsOf_89 : decode cX10_calmsOf 89 = .ok (.iconst 4, 1) := by decide +kernel
theorem dX10_calmsOf_90 : decode cX10_calmsOf 90 = .ok (.if_icmp .ne 28, 3) := by decide +kernel
theorem dX10_calmsOf_93 : decode cX10_calmsOf 93 = .ok (.iload 5, 2) := by decide +kernel
theorem dX10_calmsOf_95 : decode cX10_calmsOf 95 = .ok (.bipush 7, 2) := by decide +kernel
theorem dX10_calmsOf_97 : decode cX10_calmsOf 97 = .ok (.if_icmp .eq 10, 3) := by decide +kernel
theorem dX10_calmsOf_100 : decode cX10_calmsOf 100 = .ok (.iload 5, 2) := by decide +kernel
theorem dX10_calmsOf_102 : decode cX10_calmsOf 102 = .ok (.bipush 13, 2) := by decide +kernel
theorem dX10_calmsOf_104 : decode cX10_calmsOf 104 = .ok (.if_icmp .ne 7, 3) := by decide +kernel
theorem dX10_calmsOf_107 : decode cX10_calmsOf 107 = .ok (.iconst 0, 1) := by decide +kernel
theorem dX10_calmsOf_108 : decode cX10_calmsOf 108 = .ok (.goto 23, 3) := by decide +kernel
theorem dX10_calmsOf_111 : decode cX10_calmsOf 111 = .ok (.iload 6, 2) := by decide +kernel
theorem dX10_calmsOf_113 : decode cX10_calmsOf 113 = .ok (.iconst 2, 1) := by decide +kernel
theorem dX10_calmsOf_114 : decode cX10_calmsOf 114 = .ok (.iadd, 1) := by decide +kernel
theorem dX10_calmsOf_115 : decode cX10_calmsOf 115 = .ok (.goto 16, 3) := by decide +kernel
theorem dX10_calmsOf_118 : decode cX10_calmsOf 118 = .ok (.iload 4, 2) := by decide +kernel
theorem dX10_calmsOf_120 : decode cX10_calmsOf 120 = .ok (.iconst 5, 1) := by decide +kernel
theorem dX10_calmsOf_121 : decode cX10_calmsOf 121 = .ok (.if_icmp .ne 8, 3) := by decide +kernel
theorem dX10_calmsOf_124 : decode cX10_calmsOf 124 = .ok (.iload 5, 2) := by decide +kernel
theorem dX10_calmsOf_126 : decode cX10_calmsOf 126 = .ok (.goto 5, 3) := by decide +kernel
theorem dX10_calmsOf_129 : decode cX10_calmsOf 129 = .ok (.iload 6, 2) := by decide +kernel
theorem dX10_calmsOf_131 : decode cX10_calmsOf 131 = .ok (.istore 8, 2) := by decide +kernel
theorem dX10_calmsOf_133 : decode cX10_calmsOf 133 = .ok (.iload 8, 2) := by decide +kernel
theorem dX10_calmsOf_135 : decode cX10_calmsOf 135 = .ok (.iconst 0, 1) := by decide +kernel
theorem dX10_calmsOf_136 : decode cX10_calmsOf 136 = .ok (.bipush 99, 2) := by decide +kernel
theorem dX10_calmsOf_138 : decode cX10_calmsOf 138 = .ok (.invokestatic 249, 3) := by decide +kernel
theorem dX10_calmsOf_141 : decode cX10_calmsOf 141 = .ok (.ireturn, 1) := by decide +kernel
theorem dX10_feelsOf_0 : decode cX10_feelsOf 0 = .ok (.aload_n 0, 1) := by decide +kernel
theorem dX10_feelsOf_1 : decode cX10_feelsOf 1 = .ok (.getfield 26, 3) := by decide +kernel
theorem dX10_feelsOf_4 : decode cX10_feelsOf 4 = .ok (.iload_n 1, 1) := by decide +kernel
theorem dX10_feelsOf_5 : decode cX10_feelsOf 5 = .ok (.iaload, 1) := by decide +kernel
theorem dX10_feelsOf_6 : decode cX10_feelsOf 6 = .ok (.istore_n 3, 1) := by decide +kernel
theorem dX10_feelsOf_7 : decode cX10_feelsOf 7 = .ok (.aload_n 0, 1) := by decide +kernel
theorem dX10_feelsOf_8 : decode cX10_feelsOf 8 = .ok (.iconst 2, 1) := by decide +kernel
theorem dX10_feelsOf_9 : decode cX10_feelsOf 9 = .ok (.iload_n 1, 1) := by decide +kernel
theorem dX10_feelsOf_10 : decode cX10_feelsOf 10 = .ok (.iload_n 2, 1) := by decide +kernel
theorem dX10_feelsOf_11 : decode cX10_feelsOf 11 = .ok (.iconst 0, 1) := by decide +kernel
theorem dX10_feelsOf_12 : decode cX10_feelsOf 12 = .ok (.invokevirtual 252, 3) := by decide +kernel
theorem dX10_feelsOf_15 : decode cX10_feelsOf 15 = .ok (.istore 4, 2) := by decide +kernel
theorem dX10_feelsOf_17 : decode cX10_feelsOf 17 = .ok (.iload_n 3, 1) := by decide +kernel
theorem dX10_feelsOf_18 : decode cX10_feelsOf 18 = .ok (.iconst 2, 1) := by decide +kernel
theorem dX10_feelsOf_19 : decode cX10_feelsOf 19 = .ok (.if_icmp .ne 11, 3) := by decide +kernel
theorem dX10_feelsOf_22 : decode cX10_feelsOf 22 = .ok (.iload 4, 2) := by decide +kernel
theorem dX10_feelsOf_24 : decode cX10_feelsOf 24 = .ok (.bipush 10, 2) := by decide +kernel
theorem dX10_feelsOf_26 : decode cX10_feelsOf 26 = .ok (.irem, 1) := by decide +kernel
theorem dX10_feelsOf_27 : decode cX10_feelsOf 27 = .ok (.goto 47, 3) := by decide +kernel
theorem dX10_feelsOf_30 : decode cX10_feelsOf 30 = .ok (.iload_n 3, 1) := by decide +kernel
theorem dX10_feelsOf_31 : decode cX10_feelsOf 31 = .ok (.iconst 4, 1) := by decide +kernel
theorem dX10_feelsOf_32 : decode cX10_feelsOf 32 = .ok (.if_icmp .ne 13, 3) := by decide +kernel
theorem dX10_feelsOf_35 : decode cX10_feelsOf 35 = .ok (.iload 4, 2) := by decide +kernel
theorem dX10_feelsOf_37 : decode cX10_feelsOf 37 = .ok (.bipush 10, 2) := by decide +kernel
theorem dX10_feelsOf_39 : decode cX10_feelsOf 39 = .ok (.irem, 1) := by decide +kernel
theorem dX10_feelsOf_40 : decode cX10_feelsOf 40 = .ok (.iconst 1, 1) := by decide +kernel
theorem dX10_feelsOf_41 : decode cX10_feelsOf 41 = .ok (.iadd, 1) := by decide +kernel
theorem dX10_feelsOf_42 : decode cX10_feelsOf 42 = .ok (.goto 32, 3) := by decide +kernel
theorem dX10_feelsOf_45 : decode cX10_feelsOf 45 = .ok (.iload_n 3, 1) := by decide +kernel
theorem dX10_feelsOf_46 : decode cX10_feelsOf 46 = .ok (.iconst 3, 1) := by decide +kernel
theorem dX10_feelsOf_47 : decode cX10_feelsOf 47 = .ok (.if_icmp .ne 10, 3) := by decide +kernel
theorem dX10_feelsOf_50 : decode cX10_feelsOf 50 = .ok (.iconst 2, 1) := by decide +kernel
theorem dX10_feelsOf_51 : decode cX10_feelsOf 51 = .ok (.iload 4, 2) := by decide +kernel
theorem dX10_feelsOf_53 : decode cX10_feelsOf 53 = .ok (.imul, 1) := by decide +kernel
theorem dX10_feelsOf_54 : decode cX10_feelsOf 54 = .ok (.goto 20, 3) := by decide +kernel
theorem dX10_feelsOf_57 : decode cX10_feelsOf 57 = .ok (.iload_n 3, 1) := by decide +kernel
theorem dX10_feelsOf_58 : decode cX10_feelsOf 58 = .ok (.iconst 5, 1) := by decide +kernel
theorem dX10_feelsOf_59 : decode cX10_feelsOf 59 = .ok (.if_icmp .ne 13, 3) := by decide +kernel
theorem dX10_feelsOf_62 : decode cX10_feelsOf 62 = .ok (.iload 4, 2) := by decide +kernel
theorem dX10_feelsOf_64 : decode cX10_feelsOf 64 = .ok (.iconst 5, 1) := by decide +kernel
theorem dX10_feelsOf_65 : decode cX10_feelsOf 65 = .ok (.if_icmp .ge 7, 3) := by decide +kernel
theorem dX10_feelsOf_68 : decode cX10_feelsOf 68 = .ok (.iconst 0, 1) := by decide +kernel
theorem dX10_feelsOf_69 : decode cX10_feelsOf 69 = .ok (.goto 5, 3) := by decide +kernel
theorem dX10_feelsOf_72 : decode cX10_feelsOf 72 = .ok (.iload 4, 2) := by decide +kernel
theorem dX10_feelsOf_74 : decode cX10_feelsOf 74 = .ok (.istore 5, 2) := by decide +kernel
theorem dX10_feelsOf_76 : decode cX10_feelsOf 76 = .ok (.iload 5, 2) := by decide +kernel
theorem dX10_feelsOf_78 : decode cX10_feelsOf 78 = .ok (.iconst 0, 1) := by decide +kernel
theorem dX10_feelsOf_79 : decode cX10_feelsOf 79 = .ok (.bipush 99, 2) := by decide +kernel
theorem dX10_feelsOf_81 : decode cX10_feelsOf 81 = .ok (.invokestatic 249, 3) := by decide +kernel
theorem dX10_feelsOf_84 : decode cX10_feelsOf 84 = .ok (.ireturn, 1) := by decide +kernel
theorem dX10_lives_0 : decode cX10_lives 0 = .ok (.aload_n 0, 1) := by decide +kernel
theorem dX10_lives_1 : decode cX10_lives 1 = .ok (.getfield 101, 3) := by decide +kernel
theorem dX10_lives_4 : decode cX10_lives 4 = .ok (.istore 4, 2) := by decide +kernel
theorem dX10_lives_6 : decode cX10_lives 6 = .ok (.aload_n 0, 1) := by decide +kernel
theorem dX10_lives_7 : decode cX10_lives 7 = .ok (.aload_n 0, 1) := by decide +kernel
theorem dX10_lives_8 : decode cX10_lives 8 = .ok (.getfield 29, 3) := by decide +kernel
theorem dX10_lives_11 : decode cX10_lives 11 = .ok (.iconst 3, 1) := by decide +kernel
theorem dX10_lives_12 : decode cX10_lives 12 = .ok (.iload_n 1, 1) := by decide +kernel
theorem dX10_lives_13 : decode cX10_lives 13 = .ok (.imul, 1) := by decide +kernel
theorem dX10_lives_14 : decode cX10_lives 14 = .ok (.iconst 2, 1) := by decide +kernel
theorem dX10_lives_15 : decode cX10_lives 15 = .ok (.iadd, 1) := by decide +kernel
theorem dX10_lives_16 : decode cX10_lives 16 = .ok (.iaload, 1) := by decide +kernel
theorem dX10_lives_17 : decode cX10_lives 17 = .ok (.putfield 256, 3) := by decide +kernel
theorem dX10_lives_20 : decode cX10_lives 20 = .ok (.aload_n 0, 1) := by decide +kernel
theorem dX10_lives_21 : decode cX10_lives 21 = .ok (.iconst 0, 1) := by decide +kernel
theorem dX10_lives_22 : decode cX10_lives 22 = .ok (.putfield 259, 3) := by decide +kernel
theorem dX10_lives_25 : decode cX10_lives 25 = .ok (.aload_n 0, 1) := by decide +kernel
theorem dX10_lives_26 : decode cX10_lives 26 = .ok (.iconst (-1), 1) := by decide +kernel
theorem dX10_lives_27 : decode cX10_lives 27 = .ok (.putfield 262, 3) := by decide +kernel
theorem dX10_lives_30 : decode cX10_lives 30 = .ok (.iconst 0, 1) := by decide +kernel
theorem dX10_lives_31 : decode cX10_lives 31 = .ok (.istore 5, 2) := by decide +kernel
theorem dX10_lives_33 : decode cX10_lives 33 = .ok (.iload 5, 2) := by decide +kernel
theorem dX10_lives_35 : decode cX10_lives 35 = .ok (.iload_n 3, 1) := by decide +kernel
theorem dX10_lives_36 : decode cX10_lives 36 = .ok (.if_icmp .ge 111, 3) := by decide +kernel
theorem dX10_lives_39 : decode cX10_lives 39 = .ok (.aload_n 0, 1) := by decide +kernel
theorem dX10_lives_40 : decode cX10_lives 40 = .ok (.aload_n 0, 1) := by decide +kernel
theorem dX10_lives_41 : decode cX10_lives 41 = .ok (.getfield 256, 3) := by decide +kernel
theorem dX10_lives_44 : decode cX10_lives 44 = .ok (.aload_n 0, 1) := by decide +kernel
theorem dX10_lives_45 : decode cX10_lives 45 = .ok (.iload_n 1, 1) := by decide +kernel
theorem dX10_lives_46 : decode cX10_lives 46 = .ok (.iload_n 2, 1) := by decide +kernel
theorem dX10_lives_47 : decode cX10_lives 47 = .ok (.aload_n 0, 1) := by decide +kernel
theorem dX10_lives_48 : decode cX10_lives 48 = .ok (.getfield 256, 3) := by decide +kernel
theorem dX10_lives_51 : decode cX10_lives 51 = .ok (.invokevirtual 122, 3) := by decide +kernel
theorem dX10_lives_54 : decode cX10_lives 54 = .ok (.iadd, 1) := by decide +kernel
theorem dX10_lives_55 : decode cX10_lives 55 = .ok (.iconst 0, 1) := by decide +kernel
theorem dX10_lives_56 : decode cX10_lives 56 = .ok (.bipush 99, 2) := by decide +kernel
theorem dX10_lives_58 : decode cX10_lives 58 = .ok (.invokestatic 249, 3) := by decide +kernel
theorem dX10_lives_61 : decode cX10_lives 61 = .ok (.putfield 256, 3) := by decide +kernel
theorem dX10_lives_64 : decode cX10_lives 64 = .ok (.aload_n 0, 1) := by decide +kernel
theorem dX10_lives_65 : decode cX10_lives 65 = .ok (.getfield 256, 3) := by decide +kernel
theorem dX10_lives_68 : decode cX10_lives 68 = .ok (.aload_n 0, 1) := by decide +kernel
theorem dX10_lives_69 : decode cX10_lives 69 = .ok (.getfield 23, 3) := by decide +kernel
theorem dX10_lives_72 : decode cX10_lives 72 = .ok (.if_icmp .lt 34, 3) := by decide +kernel
theorem dX10_lives_75 : decode cX10_lives 75 = .ok (.aload_n 0, 1) := by decide +kernel
theorem dX10_lives_76 : decode cX10_lives 76 = .ok (.dup, 1) := by decide +kernel
theorem dX10_lives_77 : decode cX10_lives 77 = .ok (.getfield 259, 3) := by decide +kernel
theorem dX10_lives_80 : decode cX10_lives 80 = .ok (.iconst 1, 1) := by decide +kernel
theorem dX10_lives_81 : decode cX10_lives 81 = .ok (.iadd, 1) := by decide +kernel
theorem dX10_lives_82 : decode cX10_lives 82 = .ok (.putfield 259, 3) := by decide +kernel
theorem dX10_lives_85 : decode cX10_lives 85 = .ok (.aload_n 0, 1) := by decide +kernel
theorem dX10_lives_86 : decode cX10_lives 86 = .ok (.aload_n 0, 1) := by decide +kernel
theorem dX10_lives_87 : decode cX10_lives 87 = .ok (.getfield 262, 3) := by decide +kernel
theorem dX10_lives_90 : decode cX10_lives 90 = .ok (.iconst (-1), 1) := by decide +kernel
theorem dX10_lives_91 : decode cX10_lives 91 = .ok (.if_icmp .ne 8, 3) := by decide +kernel
theorem dX10_lives_94 : decode cX10_lives 94 = .ok (.iload 5, 2) := by decide +kernel
theorem dX10_lives_96 : decode cX10_lives 96 = .ok (.goto 7, 3) := by decide +kernel
theorem dX10_lives_99 : decode cX10_lives 99 = .ok (.aload_n 0, 1) := by decide +kernel
theorem dX10_lives_100 : decode cX10_lives 100 = .ok (.getfield 262, 3) := by decide +kernel
theorem dX10_lives_103 : decode cX10_lives 103 = .ok (.putfield 262, 3) := by decide +kernel
theorem dX10_lives_106 : decode cX10_lives 106 = .ok (.aload_n 0, 1) := by decide +kernel
theorem dX10_lives_107 : decode cX10_lives 107 = .ok (.aload_n 0, 1) := by decide +kernel
theorem dX10_lives_108 : decode cX10_lives 108 = .ok (.getfield 256, 3) := by decide +kernel
theorem dX10_lives_111 : decode cX10_lives 111 = .ok (.aload_n 0, 1) := by decide +kernel
theorem dX10_lives_112 : decode cX10_lives 112 = .ok (.iload_n 1, 1) := by decide +kernel
theorem dX10_lives_113 : decode cX10_lives 113 = .ok (.iload_n 2, 1) := by decide +kernel
theorem dX10_lives_114 : decode cX10_lives 114 = .ok (.aload_n 0, 1) := by decide +kernel
theorem dX10_lives_115 : decode cX10_lives 115 = .ok (.getfield 256, 3) := by decide +kernel
theorem dX10_lives_118 : decode cX10_lives 118 = .ok (.invokevirtual 126, 3) := by decide +kernel
theorem dX10_lives_121 : decode cX10_lives 121 = .ok (.isub, 1) := by decide +kernel
theorem dX10_lives_122 : decode cX10_lives 122 = .ok (.iconst 0, 1) := by decide +kernel
theorem dX10_lives_123 : decode cX10_lives 123 = .ok (.bipush 99, 2) := by decide +kernel
theorem dX10_lives_125 : decode cX10_lives 125 = .ok (.invokestatic 249, 3) := by decide +kernel
theorem dX10_lives_128 : decode cX10_lives 128 = .ok (.putfield 256, 3) := by decide +kernel
theorem dX10_lives_131 : decode cX10_lives 131 = .ok (.aload_n 0, 1) := by decide +kernel
theorem dX10_lives_132 : decode cX10_lives 132 = .ok (.dup, 1) := by decide +kernel
theorem dX10_lives_133 : decode cX10_lives 133 = .ok (.getfield 101, 3) := by decide +kernel
theorem dX10_lives_136 : decode cX10_lives 136 = .ok (.iconst 1, 1) := by decide +kernel
theorem dX10_lives_137 : decode cX10_lives 137 = .ok (.iadd, 1) := by decide +kernel
theorem dX10_lives_138 : decode cX10_lives 138 = .ok (.putfield 101, 3) := by decide +kernel
theorem dX10_lives_141 : decode cX10_lives 141 = .ok (.iinc 5 1, 3) := by decide +kernel
theorem dX10_lives_144 : decode cX10_lives 144 = .ok (.goto (-111), 3) := by decide +kernel
theorem dX10_lives_147 : decode cX10_lives 147 = .ok (.aload_n 0, 1) := by decide +kernel
theorem dX10_lives_148 : decode cX10_lives 148 = .ok (.iload 4, 2) := by decide +kernel
theorem dX10_lives_150 : decode cX10_lives 150 = .ok (.putfield 101, 3) := by decide +kernel
theorem dX10_lives_153 : decode cX10_lives 153 = .ok (.return_, 1) := by decide +kernel
theorem dX10_day_0 : decode cX10_day 0 = .ok (.aload_n 0, 1) := by decide +kernel
theorem dX10_day_1 : decode cX10_day 1 = .ok (.getfield 101, 3) := by decide +kernel
theorem dX10_day_4 : decode cX10_day 4 = .ok (.sipush 999, 3) := by decide +kernel
