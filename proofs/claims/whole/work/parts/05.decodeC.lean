/-! decode rows, by program (wip/whole/mk02.py) -/
theorem d_Md_init_0 : decode c_Md_init 0 = .ok (.aload_n 0, 1) := by decide +kernel
theorem d_Md_init_1 : decode c_Md_init 1 = .ok (.invokespecial 1, 3) := by decide +kernel
theorem d_Md_init_4 : decode c_Md_init 4 = .ok (.aload_n 0, 1) := by decide +kernel
theorem d_Md_init_5 : decode c_Md_init 5 = .ok (.iconst 0, 1) := by decide +kernel
theorem d_Md_init_6 : decode c_Md_init 6 = .ok (.putfield 7, 3) := by decide +kernel
theorem d_Md_init_9 : decode c_Md_init 9 = .ok (.aload_n 0, 1) := by decide +kernel
theorem d_Md_init_10 : decode c_Md_init 10 = .ok (.iconst 0, 1) := by decide +kernel
theorem d_Md_init_11 : decode c_Md_init 11 = .ok (.putfield 13, 3) := by decide +kernel
theorem d_Md_init_14 : decode c_Md_init 14 = .ok (.aload_n 0, 1) := by decide +kernel
theorem d_Md_init_15 : decode c_Md_init 15 = .ok (.sipush 240, 3) := by decide +kernel
theorem d_Md_init_18 : decode c_Md_init 18 = .ok (.newarray .int, 2) := by decide +kernel
theorem d_Md_init_20 : decode c_Md_init 20 = .ok (.putfield 16, 3) := by decide +kernel
theorem d_Md_init_23 : decode c_Md_init 23 = .ok (.aload_n 0, 1) := by decide +kernel
theorem d_Md_init_24 : decode c_Md_init 24 = .ok (.sipush 240, 3) := by decide +kernel
theorem d_Md_init_27 : decode c_Md_init 27 = .ok (.newarray .int, 2) := by decide +kernel
theorem d_Md_init_29 : decode c_Md_init 29 = .ok (.putfield 20, 3) := by decide +kernel
theorem d_Md_init_32 : decode c_Md_init 32 = .ok (.aload_n 0, 1) := by decide +kernel
theorem d_Md_init_33 : decode c_Md_init 33 = .ok (.sipush 240, 3) := by decide +kernel
theorem d_Md_init_36 : decode c_Md_init 36 = .ok (.newarray .int, 2) := by decide +kernel
theorem d_Md_init_38 : decode c_Md_init 38 = .ok (.putfield 23, 3) := by decide +kernel
theorem d_Md_init_41 : decode c_Md_init 41 = .ok (.aload_n 0, 1) := by decide +kernel
theorem d_Md_init_42 : decode c_Md_init 42 = .ok (.sipush 240, 3) := by decide +kernel
theorem d_Md_init_45 : decode c_Md_init 45 = .ok (.newarray .int, 2) := by decide +kernel
theorem d_Md_init_47 : decode c_Md_init 47 = .ok (.putfield 26, 3) := by decide +kernel
theorem d_Md_init_50 : decode c_Md_init 50 = .ok (.aload_n 0, 1) := by decide +kernel
theorem d_Md_init_51 : decode c_Md_init 51 = .ok (.sipush 2880, 3) := by decide +kernel
theorem d_Md_init_54 : decode c_Md_init 54 = .ok (.newarray .int, 2) := by decide +kernel
theorem d_Md_init_56 : decode c_Md_init 56 = .ok (.putfield 29, 3) := by decide +kernel
theorem d_Md_init_59 : decode c_Md_init 59 = .ok (.aload_n 0, 1) := by decide +kernel
theorem d_Md_init_60 : decode c_Md_init 60 = .ok (.sipush 240, 3) := by decide +kernel
theorem d_Md_init_63 : decode c_Md_init 63 = .ok (.newarray .boolean, 2) := by decide +kernel
theorem d_Md_init_65 : decode c_Md_init 65 = .ok (.putfield 32, 3) := by decide +kernel
theorem d_Md_init_68 : decode c_Md_init 68 = .ok (.aload_n 0, 1) := by decide +kernel
theorem d_Md_init_69 : decode c_Md_init 69 = .ok (.sipush 240, 3) := by decide +kernel
theorem d_Md_init_72 : decode c_Md_init 72 = .ok (.newarray .boolean, 2) := by decide +kernel
theorem d_Md_init_74 : decode c_Md_init 74 = .ok (.putfield 36, 3) := by decide +kernel
theorem d_Md_init_77 : decode c_Md_init 77 = .ok (.aload_n 0, 1) := by decide +kernel
theorem d_Md_init_78 : decode c_Md_init 78 = .ok (.sipush 240, 3) := by decide +kernel
theorem d_Md_init_81 : decode c_Md_init 81 = .ok (.newarray .int, 2) := by decide +kernel
theorem d_Md_init_83 : decode c_Md_init 83 = .ok (.putfield 39, 3) := by decide +kernel
theorem d_Md_init_86 : decode c_Md_init 86 = .ok (.aload_n 0, 1) := by decide +kernel
theorem d_Md_init_87 : decode c_Md_init 87 = .ok (.sipush 240, 3) := by decide +kernel
theorem d_Md_init_90 : decode c_Md_init 90 = .ok (.newarray .int, 2) := by decide +kernel
theorem d_Md_init_92 : decode c_Md_init 92 = .ok (.putfield 42, 3) := by decide +kernel
theorem d_Md_init_95 : decode c_Md_init 95 = .ok (.aload_n 0, 1) := by decide +kernel
theorem d_Md_init_96 : decode c_Md_init 96 = .ok (.sipush 240, 3) := by decide +kernel
theorem d_Md_init_99 : decode c_Md_init 99 = .ok (.newarray .int, 2) := by decide +kernel
theorem d_Md_init_101 : decode c_Md_init 101 = .ok (.putfield 45, 3) := by decide +kernel
theorem d_Md_init_104 : decode c_Md_init 104 = .ok (.aload_n 0, 1) := by decide +kernel
theorem d_Md_init_105 : decode c_Md_init 105 = .ok (.sipush 720, 3) := by decide +kernel
theorem d_Md_init_108 : decode c_Md_init 108 = .ok (.newarray .int, 2) := by decide +kernel
theorem d_Md_init_110 : decode c_Md_init 110 = .ok (.putfield 48, 3) := by decide +kernel
theorem d_Md_init_113 : decode c_Md_init 113 = .ok (.aload_n 0, 1) := by decide +kernel
theorem d_Md_init_114 : decode c_Md_init 114 = .ok (.sipush 720, 3) := by decide +kernel
theorem d_Md_init_117 : decode c_Md_init 117 = .ok (.newarray .int, 2) := by decide +kernel
theorem d_Md_init_119 : decode c_Md_init 119 = .ok (.putfield 51, 3) := by decide +kernel
theorem d_Md_init_122 : decode c_Md_init 122 = .ok (.aload_n 0, 1) := by decide +kernel
theorem d_Md_init_123 : decode c_Md_init 123 = .ok (.iconst 0, 1) := by decide +kernel
theorem d_Md_init_124 : decode c_Md_init 124 = .ok (.putfield 54, 3) := by decide +kernel
theorem d_Md_init_127 : decode c_Md_init 127 = .ok (.aload_n 0, 1) := by decide +kernel
theorem d_Md_init_128 : decode c_Md_init 128 = .ok (.bipush 30, 2) := by decide +kernel
theorem d_Md_init_130 : decode c_Md_init 130 = .ok (.newarray .int, 2) := by decide +kernel
theorem d_Md_init_132 : decode c_Md_init 132 = .ok (.putfield 57, 3) := by decide +kernel
theorem d_Md_init_135 : decode c_Md_init 135 = .ok (.aload_n 0, 1) := by decide +kernel
theorem d_Md_init_136 : decode c_Md_init 136 = .ok (.iconst 0, 1) := by decide +kernel
theorem d_Md_init_137 : decode c_Md_init 137 = .ok (.putfield 60, 3) := by decide +kernel
theorem d_Md_init_140 : decode c_Md_init 140 = .ok (.aload_n 0, 1) := by decide +kernel
theorem d_Md_init_141 : decode c_Md_init 141 = .ok (.bipush 30, 2) := by decide +kernel
theorem d_Md_init_143 : decode c_Md_init 143 = .ok (.newarray .int, 2) := by decide +kernel
theorem d_Md_init_145 : decode c_Md_init 145 = .ok (.putfield 63, 3) := by decide +kernel
theorem d_Md_init_148 : decode c_Md_init 148 = .ok (.aload_n 0, 1) := by decide +kernel
theorem d_Md_init_149 : decode c_Md_init 149 = .ok (.iconst 0, 1) := by decide +kernel
theorem d_Md_init_150 : decode c_Md_init 150 = .ok (.putfield 66, 3) := by decide +kernel
theorem d_Md_init_153 : decode c_Md_init 153 = .ok (.aload_n 0, 1) := by decide +kernel
theorem d_Md_init_154 : decode c_Md_init 154 = .ok (.sipush 160, 3) := by decide +kernel
theorem d_Md_init_157 : decode c_Md_init 157 = .ok (.newarray .int, 2) := by decide +kernel
theorem d_Md_init_159 : decode c_Md_init 159 = .ok (.putfield 69, 3) := by decide +kernel
theorem d_Md_init_162 : decode c_Md_init 162 = .ok (.aload_n 0, 1) := by decide +kernel
theorem d_Md_init_163 : decode c_Md_init 163 = .ok (.sipush 1920, 3) := by decide +kernel
theorem d_Md_init_166 : decode c_Md_init 166 = .ok (.newarray .int, 2) := by decide +kernel
theorem d_Md_init_168 : decode c_Md_init 168 = .ok (.putfield 72, 3) := by decide +kernel
theorem d_Md_init_171 : decode c_Md_init 171 = .ok (.aload_n 0, 1) := by decide +kernel
theorem d_Md_init_172 : decode c_Md_init 172 = .ok (.bipush 8, 2) := by decide +kernel
theorem d_Md_init_174 : decode c_Md_init 174 = .ok (.newarray .int, 2) := by decide +kernel
theorem d_Md_init_176 : decode c_Md_init 176 = .ok (.putfield 75, 3) := by decide +kernel
theorem d_Md_init_179 : decode c_Md_init 179 = .ok (.aload_n 0, 1) := by decide +kernel
theorem d_Md_init_180 : decode c_Md_init 180 = .ok (.bipush 96, 2) := by decide +kernel
theorem d_Md_init_182 : decode c_Md_init 182 = .ok (.newarray .int, 2) := by decide +kernel
theorem d_Md_init_184 : decode c_Md_init 184 = .ok (.putfield 78, 3) := by decide +kernel
theorem d_Md_init_187 : decode c_Md_init 187 = .ok (.aload_n 0, 1) := by decide +kernel
theorem d_Md_init_188 : decode c_Md_init 188 = .ok (.iconst 0, 1) := by decide +kernel
theorem d_Md_init_189 : decode c_Md_init 189 = .ok (.putfield 81, 3) := by decide +kernel
theorem d_Md_init_192 : decode c_Md_init 192 = .ok (.aload_n 0, 1) := by decide +kernel
theorem d_Md_init_193 : decode c_Md_init 193 = .ok (.bipush 8, 2) := by decide +kernel
theorem d_Md_init_195 : decode c_Md_init 195 = .ok (.newarray .int, 2) := by decide +kernel
theorem d_Md_init_197 : decode c_Md_init 197 = .ok (.putfield 84, 3) := by decide +kernel
theorem d_Md_init_200 : decode c_Md_init 200 = .ok (.aload_n 0, 1) := by decide +kernel
theorem d_Md_init_201 : decode c_Md_init 201 = .ok (.iconst 0, 1) := by decide +kernel
theorem d_Md_init_202 : decode c_Md_init 202 = .ok (.putfield 87, 3) := by decide +kernel
theorem d_Md_init_205 : decode c_Md_init 205 = .ok (.aload_n 0, 1) := by decide +kernel
theorem d_Md_init_206 : decode c_Md_init 206 = .ok (.iconst 0, 1) := by decide +kernel
theorem d_Md_init_207 : decode c_Md_init 207 = .ok (.putfield 90, 3) := by decide +kernel
theorem d_Md_init_210 : decode c_Md_init 210 = .ok (.aload_n 0, 1) := by decide +kernel
theorem d_Md_init_211 : decode c_Md_init 211 = .ok (.iconst 0, 1) := by decide +kernel
theorem d_Md_init_212 : decode c_Md_init 212 = .ok (.putfield 93, 3) := by decide +kernel
theorem d_Md_init_215 : decode c_Md_init 215 = .ok (.aload_n 0, 1) := by decide +kernel
theorem d_Md_init_216 : decode c_Md_init 216 = .ok (.iconst 0, 1) := by decide +kernel
theorem d_Md_init_217 : decode c_Md_init 217 = .ok (.putfield 96, 3) := by decide +kernel
theorem d_Md_init_220 : decode c_Md_init 220 = .ok (.aload_n 0, 1) := by decide +kernel
theorem d_Md_init_221 : decode c_Md_init 221 = .ok (.iconst 0, 1) := by decide +kernel
theorem d_Md_init_222 : decode c_Md_init 222 = .ok (.putfield 100, 3) := by decide +kernel
theorem d_Md_init_225 : decode c_Md_init 225 = .ok (.aload_n 0, 1) := by decide +kernel
theorem d_Md_init_226 : decode c_Md_init 226 = .ok (.sipush 1000, 3) := by decide +kernel
theorem d_Md_init_229 : decode c_Md_init 229 = .ok (.newarray .int, 2) := by decide +kernel
theorem d_Md_init_231 : decode c_Md_init 231 = .ok (.putfield 103, 3) := by decide +kernel
theorem d_Md_init_234 : decode c_Md_init 234 = .ok (.aload_n 0, 1) := by decide +kernel
theorem d_Md_init_235 : decode c_Md_init 235 = .ok (.sipush 1000, 3) := by decide +kernel
theorem d_Md_init_238 : decode c_Md_init 238 = .ok (.newarray .int, 2) := by decide +kernel
theorem d_Md_init_240 : decode c_Md_init 240 = .ok (.putfield 106, 3) := by decide +kernel
theorem d_Md_init_243 : decode c_Md_init 243 = .ok (.aload_n 0, 1) := by decide +kernel
theorem d_Md_init_244 : decode c_Md_init 244 = .ok (.sipush 1000, 3) := by decide +kernel
theorem d_Md_init_247 : decode c_Md_init 247 = .ok (.newarray .int, 2) := by decide +kernel
theorem d_Md_init_249 : decode c_Md_init 249 = .ok (.putfield 109, 3) := by decide +kernel
theorem d_Md_init_252 : decode c_Md_init 252 = .ok (.aload_n 0, 1) := by decide +kernel
theorem d_Md_init_253 : decode c_Md_init 253 = .ok (.sipush 1000, 3) := by decide +kernel
theorem d_Md_init_256 : decode c_Md_init 256 = .ok (.newarray .int, 2) := by decide +kernel
theorem d_Md_init_258 : decode c_Md_init 258 = .ok (.putfield 112, 3) := by decide +kernel
theorem d_Md_init_261 : decode c_Md_init 261 = .ok (.aload_n 0, 1) := by decide +kernel
theorem d_Md_init_262 : decode c_Md_init 262 = .ok (.sipush 1000, 3) := by decide +kernel
theorem d_Md_init_265 : decode c_Md_init 265 = .ok (.newarray .int, 2) := by decide +kernel
theorem d_Md_init_267 : decode c_Md_init 267 = .ok (.putfield 115, 3) := by decide +kernel
theorem d_Md_init_270 : decode c_Md_init 270 = .ok (.aload_n 0, 1) := by decide +kernel
theorem d_Md_init_271 : decode c_Md_init 271 = .ok (.iconst 0, 1) := by decide +kernel
theorem d_Md_init_272 : decode c_Md_init 272 = .ok (.putfield 118, 3) := by decide +kernel
theorem d_Md_init_275 : decode c_Md_init 275 = .ok (.aload_n 0, 1) := by decide +kernel
theorem d_Md_init_276 : decode c_Md_init 276 = .ok (.sipush 500, 3) := by decide +kernel
theorem d_Md_init_279 : decode c_Md_init 279 = .ok (.newarray .int, 2) := by decide +kernel
theorem d_Md_init_281 : decode c_Md_init 281 = .ok (.putfield 121, 3) := by decide +kernel
theorem d_Md_init_284 : decode c_Md_init 284 = .ok (.aload_n 0, 1) := by decide +kernel
theorem d_Md_init_285 : decode c_Md_init 285 = .ok (.sipush 500, 3) := by decide +kernel
theorem d_Md_init_288 : decode c_Md_init 288 = .ok (.newarray .int, 2) := by decide +kernel
theorem d_Md_init_290 : decode c_Md_init 290 = .ok (.putfield 124, 3) := by decide +kernel
theorem d_Md_init_293 : decode c_Md_init 293 = .ok (.aload_n 0, 1) := by decide +kernel
theorem d_Md_init_294 : decode c_Md_init 294 = .ok (.sipush 500, 3) := by decide +kernel
theorem d_Md_init_297 : decode c_Md_init 297 = .ok (.newarray .int, 2) := by decide +kernel
theorem d_Md_init_299 : decode c_Md_init 299 = .ok (.putfield 127, 3) := by decide +kernel
theorem d_Md_init_302 : decode c_Md_init 302 = .ok (.aload_n 0, 1) := by decide +kernel
theorem d_Md_init_303 : decode c_Md_init 303 = .ok (.sipush 500, 3) := by decide +kernel
theorem d_Md_init_306 : decode c_Md_init 306 = .ok (.newarray .int, 2) := by decide +kernel
theorem d_Md_init_308 : decode c_Md_init 308 = .ok (.putfield 130, 3) := by decide +kernel
theorem d_Md_init_311 : decode c_Md_init 311 = .ok (.aload_n 0, 1) := by decide +kernel
theorem d_Md_init_312 : decode c_Md_init 312 = .ok (.bipush 64, 2) := by decide +kernel
theorem d_Md_init_314 : decode c_Md_init 314 = .ok (.newarray .int, 2) := by decide +kernel
theorem d_Md_init_316 : decode c_Md_init 316 = .ok (.putfield 133, 3) := by decide +kernel
theorem d_Md_init_319 : decode c_Md_init 319 = .ok (.aload_n 0, 1) := by decide +kernel
theorem d_Md_init_320 : decode c_Md_init 320 = .ok (.bipush 64, 2) := by decide +kernel
theorem d_Md_init_322 : decode c_Md_init 322 = .ok (.newarray .int, 2) := by decide +kernel
theorem d_Md_init_324 : decode c_Md_init 324 = .ok (.putfield 136, 3) := by decide +kernel
theorem d_Md_init_327 : decode c_Md_init 327 = .ok (.aload_n 0, 1) := by decide +kernel
theorem d_Md_init_328 : decode c_Md_init 328 = .ok (.bipush 64, 2) := by decide +kernel
theorem d_Md_init_330 : decode c_Md_init 330 = .ok (.newarray .int, 2) := by decide +kernel
theorem d_Md_init_332 : decode c_Md_init 332 = .ok (.putfield 139, 3) := by decide +kernel
theorem d_Md_init_335 : decode c_Md_init 335 = .ok (.aload_n 0, 1) := by decide +kernel
theorem d_Md_init_336 : decode c_Md_init 336 = .ok (.bipush 12, 2) := by decide +kernel
theorem d_Md_init_338 : decode c_Md_init 338 = .ok (.newarray .int, 2) := by decide +kernel
theorem d_Md_init_340 : decode c_Md_init 340 = .ok (.putfield 142, 3) := by decide +kernel
theorem d_Md_init_343 : decode c_Md_init 343 = .ok (.return_, 1) := by decide +kernel
theorem d_Md_compare_0 : decode c_Md_compare 0 = .ok (.iconst 0, 1) := by decide +kernel
theorem d_Md_compare_1 : decode c_Md_compare 1 = .ok (.istore_n 3, 1) := by decide +kernel
theorem d_Md_compare_2 : decode c_Md_compare 2 = .ok (.aload_n 0, 1) := by decide +kernel
theorem d_Md_compare_3 : decode c_Md_compare 3 = .ok (.getfield 133, 3) := by decide +kernel
theorem d_Md_compare_6 : decode c_Md_compare 6 = .ok (.iconst 0, 1) := by decide +kernel
theorem d_Md_compare_7 : decode c_Md_compare 7 = .ok (.iload_n 1, 1) := by decide +kernel
theorem d_Md_compare_8 : decode c_Md_compare 8 = .ok (.iastore, 1) := by decide +kernel
theorem d_Md_compare_9 : decode c_Md_compare 9 = .ok (.aload_n 0, 1) := by decide +kernel
theorem d_Md_compare_10 : decode c_Md_compare 10 = .ok (.getfield 136, 3) := by decide +kernel
theorem d_Md_compare_13 : decode c_Md_compare 13 = .ok (.iconst 0, 1) := by decide +kernel
theorem d_Md_compare_14 : decode c_Md_compare 14 = .ok (.iload_n 2, 1) := by decide +kernel
theorem d_Md_compare_15 : decode c_Md_compare 15 = .ok (.iastore, 1) := by decide +kernel
theorem d_Md_compare_16 : decode c_Md_compare 16 = .ok (.aload_n 0, 1) := by decide +kernel
theorem d_Md_compare_17 : decode c_Md_compare 17 = .ok (.getfield 139, 3) := by decide +kernel
theorem d_Md_compare_20 : decode c_Md_compare 20 = .ok (.iconst 0, 1) := by decide +kernel
theorem d_Md_compare_21 : decode c_Md_compare 21 = .ok (.iconst 0, 1) := by decide +kernel
theorem d_Md_compare_22 : decode c_Md_compare 22 = .ok (.iastore, 1) := by decide +kernel
theorem d_Md_compare_23 : decode c_Md_compare 23 = .ok (.iload_n 3, 1) := by decide +kernel
theorem d_Md_compare_24 : decode c_Md_compare 24 = .ok (.ifCond .lt 231, 3) := by decide +kernel
theorem d_Md_compare_27 : decode c_Md_compare 27 = .ok (.aload_n 0, 1) := by decide +kernel
theorem d_Md_compare_28 : decode c_Md_compare 28 = .ok (.getfield 133, 3) := by decide +kernel
theorem d_Md_compare_31 : decode c_Md_compare 31 = .ok (.iload_n 3, 1) := by decide +kernel
theorem d_Md_compare_32 : decode c_Md_compare 32 = .ok (.iaload, 1) := by decide +kernel
theorem d_Md_compare_33 : decode c_Md_compare 33 = .ok (.istore 4, 2) := by decide +kernel
theorem d_Md_compare_35 : decode c_Md_compare 35 = .ok (.aload_n 0, 1) := by decide +kernel
theorem d_Md_compare_36 : decode c_Md_compare 36 = .ok (.getfield 136, 3) := by decide +kernel
theorem d_Md_compare_39 : decode c_Md_compare 39 = .ok (.iload_n 3, 1) := by decide +kernel
theorem d_Md_compare_40 : decode c_Md_compare 40 = .ok (.iaload, 1) := by decide +kernel
theorem d_Md_compare_41 : decode c_Md_compare 41 = .ok (.istore 5, 2) := by decide +kernel
theorem d_Md_compare_43 : decode c_Md_compare 43 = .ok (.aload_n 0, 1) := by decide +kernel
theorem d_Md_compare_44 : decode c_Md_compare 44 = .ok (.getfield 139, 3) := by decide +kernel
theorem d_Md_compare_47 : decode c_Md_compare 47 = .ok (.iload_n 3, 1) := by decide +kernel
theorem d_Md_compare_48 : decode c_Md_compare 48 = .ok (.iaload, 1) := by decide +kernel
theorem d_Md_compare_49 : decode c_Md_compare 49 = .ok (.istore 6, 2) := by decide +kernel
theorem d_Md_compare_51 : decode c_Md_compare 51 = .ok (.iload 6, 2) := by decide +kernel
theorem d_Md_compare_53 : decode c_Md_compare 53 = .ok (.ifCond .ne 123, 3) := by decide +kernel
theorem d_Md_compare_56 : decode c_Md_compare 56 = .ok (.aload_n 0, 1) := by decide +kernel
theorem d_Md_compare_57 : decode c_Md_compare 57 = .ok (.getfield 16, 3) := by decide +kernel
theorem d_Md_compare_60 : decode c_Md_compare 60 = .ok (.iload 4, 2) := by decide +kernel
theorem d_Md_compare_62 : decode c_Md_compare 62 = .ok (.iaload, 1) := by decide +kernel
theorem d_Md_compare_63 : decode c_Md_compare 63 = .ok (.aload_n 0, 1) := by decide +kernel
theorem d_Md_compare_64 : decode c_Md_compare 64 = .ok (.getfield 16, 3) := by decide +kernel
theorem d_Md_compare_67 : decode c_Md_compare 67 = .ok (.iload 5, 2) := by decide +kernel
theorem d_Md_compare_69 : decode c_Md_compare 69 = .ok (.iaload, 1) := by decide +kernel
theorem d_Md_compare_70 : decode c_Md_compare 70 = .ok (.if_icmp .eq 26, 3) := by decide +kernel
theorem d_Md_compare_73 : decode c_Md_compare 73 = .ok (.aload_n 0, 1) := by decide +kernel
theorem d_Md_compare_74 : decode c_Md_compare 74 = .ok (.getfield 16, 3) := by decide +kernel
theorem d_Md_compare_77 : decode c_Md_compare 77 = .ok (.iload 4, 2) := by decide +kernel
theorem d_Md_compare_79 : decode c_Md_compare 79 = .ok (.iaload, 1) := by decide +kernel
theorem d_Md_compare_80 : decode c_Md_compare 80 = .ok (.aload_n 0, 1) := by decide +kernel
theorem d_Md_compare_81 : decode c_Md_compare 81 = .ok (.getfield 16, 3) := by decide +kernel
theorem d_Md_compare_84 : decode c_Md_compare 84 = .ok (.iload 5, 2) := by decide +kernel
theorem d_Md_compare_86 : decode c_Md_compare 86 = .ok (.iaload, 1) := by decide +kernel
theorem d_Md_compare_87 : decode c_Md_compare 87 = .ok (.if_icmp .ge 7, 3) := by decide +kernel
theorem d_Md_compare_90 : decode c_Md_compare 90 = .ok (.iconst (-1), 1) := by decide +kernel
theorem d_Md_compare_91 : decode c_Md_compare 91 = .ok (.goto 4, 3) := by decide +kernel
theorem d_Md_compare_94 : decode c_Md_compare 94 = .ok (.iconst 1, 1) := by decide +kernel
theorem d_Md_compare_95 : decode c_Md_compare 95 = .ok (.ireturn, 1) := by decide +kernel
theorem d_Md_compare_96 : decode c_Md_compare 96 = .ok (.aload_n 0, 1) := by decide +kernel
theorem d_Md_compare_97 : decode c_Md_compare 97 = .ok (.getfield 20, 3) := by decide +kernel
theorem d_Md_compare_100 : decode c_Md_compare 100 = .ok (.iload 4, 2) := by decide +kernel
theorem d_Md_compare_102 : decode c_Md_compare 102 = .ok (.iaload, 1) := by decide +kernel
theorem d_Md_compare_103 : decode c_Md_compare 103 = .ok (.aload_n 0, 1) := by decide +kernel
theorem d_Md_compare_104 : decode c_Md_compare 104 = .ok (.getfield 20, 3) := by decide +kernel
theorem d_Md_compare_107 : decode c_Md_compare 107 = .ok (.iload 5, 2) := by decide +kernel
theorem d_Md_compare_109 : decode c_Md_compare 109 = .ok (.iaload, 1) := by decide +kernel
theorem d_Md_compare_110 : decode c_Md_compare 110 = .ok (.if_icmp .eq 26, 3) := by decide +kernel
theorem d_Md_compare_113 : decode c_Md_compare 113 = .ok (.aload_n 0, 1) := by decide +kernel
theorem d_Md_compare_114 : decode c_Md_compare 114 = .ok (.getfield 20, 3) := by decide +kernel
theorem d_Md_compare_117 : decode c_Md_compare 117 = .ok (.iload 4, 2) := by decide +kernel
theorem d_Md_compare_119 : decode c_Md_compare 119 = .ok (.iaload, 1) := by decide +kernel
theorem d_Md_compare_120 : decode c_Md_compare 120 = .ok (.aload_n 0, 1) := by decide +kernel
theorem d_Md_compare_121 : decode c_Md_compare 121 = .ok (.getfield 20, 3) := by decide +kernel
theorem d_Md_compare_124 : decode c_Md_compare 124 = .ok (.iload 5, 2) := by decide +kernel
theorem d_Md_compare_126 : decode c_Md_compare 126 = .ok (.iaload, 1) := by decide +kernel
theorem d_Md_compare_127 : decode c_Md_compare 127 = .ok (.if_icmp .ge 7, 3) := by decide +kernel
theorem d_Md_compare_130 : decode c_Md_compare 130 = .ok (.iconst (-1), 1) := by decide +kernel
theorem d_Md_compare_131 : decode c_Md_compare 131 = .ok (.goto 4, 3) := by decide +kernel
theorem d_Md_compare_134 : decode c_Md_compare 134 = .ok (.iconst 1, 1) := by decide +kernel
theorem d_Md_compare_135 : decode c_Md_compare 135 = .ok (.ireturn, 1) := by decide +kernel
theorem d_Md_compare_136 : decode c_Md_compare 136 = .ok (.aload_n 0, 1) := by decide +kernel
theorem d_Md_compare_137 : decode c_Md_compare 137 = .ok (.getfield 26, 3) := by decide +kernel
theorem d_Md_compare_140 : decode c_Md_compare 140 = .ok (.iload 4, 2) := by decide +kernel
theorem d_Md_compare_142 : decode c_Md_compare 142 = .ok (.iaload, 1) := by decide +kernel
theorem d_Md_compare_143 : decode c_Md_compare 143 = .ok (.aload_n 0, 1) := by decide +kernel
theorem d_Md_compare_144 : decode c_Md_compare 144 = .ok (.getfield 26, 3) := by decide +kernel
theorem d_Md_compare_147 : decode c_Md_compare 147 = .ok (.iload 5, 2) := by decide +kernel
theorem d_Md_compare_149 : decode c_Md_compare 149 = .ok (.iaload, 1) := by decide +kernel
theorem d_Md_compare_150 : decode c_Md_compare 150 = .ok (.if_icmp .eq 26, 3) := by decide +kernel
theorem d_Md_compare_153 : decode c_Md_compare 153 = .ok (.aload_n 0, 1) := by decide +kernel
theorem d_Md_compare_154 : decode c_Md_compare 154 = .ok (.getfield 26, 3) := by decide +kernel
theorem d_Md_compare_157 : decode c_Md_compare 157 = .ok (.iload 4, 2) := by decide +kernel
theorem d_Md_compare_159 : decode c_Md_compare 159 = .ok (.iaload, 1) := by decide +kernel
theorem d_Md_compare_160 : decode c_Md_compare 160 = .ok (.aload_n 0, 1) := by decide +kernel
theorem d_Md_compare_161 : decode c_Md_compare 161 = .ok (.getfield 26, 3) := by decide +kernel
theorem d_Md_compare_164 : decode c_Md_compare 164 = .ok (.iload 5, 2) := by decide +kernel
theorem d_Md_compare_166 : decode c_Md_compare 166 = .ok (.iaload, 1) := by decide +kernel
theorem d_Md_compare_167 : decode c_Md_compare 167 = .ok (.if_icmp .ge 7, 3) := by decide +kernel
theorem d_Md_compare_170 : decode c_Md_compare 170 = .ok (.iconst (-1), 1) := by decide +kernel
theorem d_Md_compare_171 : decode c_Md_compare 171 = .ok (.goto 4, 3) := by decide +kernel
theorem d_Md_compare_174 : decode c_Md_compare 174 = .ok (.iconst 1, 1) := by decide +kernel
theorem d_Md_compare_175 : decode c_Md_compare 175 = .ok (.ireturn, 1) := by decide +kernel
theorem d_Md_compare_176 : decode c_Md_compare 176 = .ok (.iload 6, 2) := by decide +kernel
theorem d_Md_compare_178 : decode c_Md_compare 178 = .ok (.aload_n 0, 1) := by decide +kernel
theorem d_Md_compare_179 : decode c_Md_compare 179 = .ok (.getfield 26, 3) := by decide +kernel
theorem d_Md_compare_182 : decode c_Md_compare 182 = .ok (.iload 4, 2) := by decide +kernel
theorem d_Md_compare_184 : decode c_Md_compare 184 = .ok (.iaload, 1) := by decide +kernel
theorem d_Md_compare_185 : decode c_Md_compare 185 = .ok (.if_icmp .ne 9, 3) := by decide +kernel
theorem d_Md_compare_188 : decode c_Md_compare 188 = .ok (.iinc 3 (-1), 3) := by decide +kernel
theorem d_Md_compare_191 : decode c_Md_compare 191 = .ok (.goto 61, 3) := by decide +kernel
theorem d_Md_compare_194 : decode c_Md_compare 194 = .ok (.aload_n 0, 1) := by decide +kernel
theorem d_Md_compare_195 : decode c_Md_compare 195 = .ok (.getfield 139, 3) := by decide +kernel
theorem d_Md_compare_198 : decode c_Md_compare 198 = .ok (.iload_n 3, 1) := by decide +kernel
theorem d_Md_compare_199 : decode c_Md_compare 199 = .ok (.iload 6, 2) := by decide +kernel
theorem d_Md_compare_201 : decode c_Md_compare 201 = .ok (.iconst 1, 1) := by decide +kernel
theorem d_Md_compare_202 : decode c_Md_compare 202 = .ok (.iadd, 1) := by decide +kernel
theorem d_Md_compare_203 : decode c_Md_compare 203 = .ok (.iastore, 1) := by decide +kernel
theorem d_Md_compare_204 : decode c_Md_compare 204 = .ok (.iinc 3 1, 3) := by decide +kernel
theorem d_Md_compare_207 : decode c_Md_compare 207 = .ok (.aload_n 0, 1) := by decide +kernel
theorem d_Md_compare_208 : decode c_Md_compare 208 = .ok (.getfield 133, 3) := by decide +kernel
theorem d_Md_compare_211 : decode c_Md_compare 211 = .ok (.iload_n 3, 1) := by decide +kernel
theorem d_Md_compare_212 : decode c_Md_compare 212 = .ok (.aload_n 0, 1) := by decide +kernel
theorem d_Md_compare_213 : decode c_Md_compare 213 = .ok (.getfield 29, 3) := by decide +kernel
theorem d_Md_compare_216 : decode c_Md_compare 216 = .ok (.bipush 12, 2) := by decide +kernel
theorem d_Md_compare_218 : decode c_Md_compare 218 = .ok (.iload 4, 2) := by decide +kernel
theorem d_Md_compare_220 : decode c_Md_compare 220 = .ok (.imul, 1) := by decide +kernel
theorem d_Md_compare_221 : decode c_Md_compare 221 = .ok (.iload 6, 2) := by decide +kernel
theorem d_Md_compare_223 : decode c_Md_compare 223 = .ok (.iadd, 1) := by decide +kernel
theorem d_Md_compare_224 : decode c_Md_compare 224 = .ok (.iaload, 1) := by decide +kernel
theorem d_Md_compare_225 : decode c_Md_compare 225 = .ok (.iastore, 1) := by decide +kernel
theorem d_Md_compare_226 : decode c_Md_compare 226 = .ok (.aload_n 0, 1) := by decide +kernel
theorem d_Md_compare_227 : decode c_Md_compare 227 = .ok (.getfield 136, 3) := by decide +kernel
theorem d_Md_compare_230 : decode c_Md_compare 230 = .ok (.iload_n 3, 1) := by decide +kernel
theorem d_Md_compare_231 : decode c_Md_compare 231 = .ok (.aload_n 0, 1) := by decide +kernel
theorem d_Md_compare_232 : decode c_Md_compare 232 = .ok (.getfield 29, 3) := by decide +kernel
theorem d_Md_compare_235 : decode c_Md_compare 235 = .ok (.bipush 12, 2) := by decide +kernel
theorem d_Md_compare_237 : decode c_Md_compare 237 = .ok (.iload 5, 2) := by decide +kernel
theorem d_Md_compare_239 : decode c_Md_compare 239 = .ok (.imul, 1) := by decide +kernel
theorem d_Md_compare_240 : decode c_Md_compare 240 = .ok (.iload 6, 2) := by decide +kernel
theorem d_Md_compare_242 : decode c_Md_compare 242 = .ok (.iadd, 1) := by decide +kernel
theorem d_Md_compare_243 : decode c_Md_compare 243 = .ok (.iaload, 1) := by decide +kernel
theorem d_Md_compare_244 : decode c_Md_compare 244 = .ok (.iastore, 1) := by decide +kernel
theorem d_Md_compare_245 : decode c_Md_compare 245 = .ok (.aload_n 0, 1) := by decide +kernel
theorem d_Md_compare_246 : decode c_Md_compare 246 = .ok (.getfield 139, 3) := by decide +kernel
theorem d_Md_compare_249 : decode c_Md_compare 249 = .ok (.iload_n 3, 1) := by decide +kernel
theorem d_Md_compare_250 : decode c_Md_compare 250 = .ok (.iconst 0, 1) := by decide +kernel
theorem d_Md_compare_251 : decode c_Md_compare 251 = .ok (.iastore, 1) := by decide +kernel
theorem d_Md_compare_252 : decode c_Md_compare 252 = .ok (.goto (-229), 3) := by decide +kernel
theorem d_Md_compare_255 : decode c_Md_compare 255 = .ok (.iconst 0, 1) := by decide +kernel
theorem d_Md_compare_256 : decode c_Md_compare 256 = .ok (.ireturn, 1) := by decide +kernel
theorem d_Md_anyOrder_0 : decode c_Md_anyOrder 0 = .ok (.iload_n 0, 1) := by decide +kernel
theorem d_Md_anyOrder_1 : decode c_Md_anyOrder 1 = .ok (.iconst 4, 1) := by decide +kernel
theorem d_Md_anyOrder_2 : decode c_Md_anyOrder 2 = .ok (.if_icmp .le 7, 3) := by decide +kernel
theorem d_Md_anyOrder_5 : decode c_Md_anyOrder 5 = .ok (.iconst 1, 1) := by decide +kernel
theorem d_Md_anyOrder_6 : decode c_Md_anyOrder 6 = .ok (.goto 4, 3) := by decide +kernel
theorem d_Md_anyOrder_9 : decode c_Md_anyOrder 9 = .ok (.iconst 0, 1) := by decide +kernel
theorem d_Md_anyOrder_10 : decode c_Md_anyOrder 10 = .ok (.ireturn, 1) := by decide +kernel
theorem d_Md_severals_0 : decode c_Md_severals 0 = .ok (.aload_n 0, 1) := by decide +kernel
theorem d_Md_severals_1 : decode c_Md_severals 1 = .ok (.getfield 16, 3) := by decide +kernel
theorem d_Md_severals_4 : decode c_Md_severals 4 = .ok (.iload_n 1, 1) := by decide +kernel
theorem d_Md_severals_5 : decode c_Md_severals 5 = .ok (.iaload, 1) := by decide +kernel
theorem d_Md_severals_6 : decode c_Md_severals 6 = .ok (.iconst 2, 1) := by decide +kernel
theorem d_Md_severals_7 : decode c_Md_severals 7 = .ok (.if_icmp .ne 17, 3) := by decide +kernel
theorem d_Md_severals_10 : decode c_Md_severals 10 = .ok (.aload_n 0, 1) := by decide +kernel
theorem d_Md_severals_11 : decode c_Md_severals 11 = .ok (.getfield 23, 3) := by decide +kernel
theorem d_Md_severals_14 : decode c_Md_severals 14 = .ok (.iload_n 1, 1) := by decide +kernel
theorem d_Md_severals_15 : decode c_Md_severals 15 = .ok (.iaload, 1) := by decide +kernel
theorem d_Md_severals_16 : decode c_Md_severals 16 = .ok (.iconst 1, 1) := by decide +kernel
theorem d_Md_severals_17 : decode c_Md_severals 17 = .ok (.if_icmp .le 7, 3) := by decide +kernel
theorem d_Md_severals_20 : decode c_Md_severals 20 = .ok (.iconst 1, 1) := by decide +kernel
theorem d_Md_severals_21 : decode c_Md_severals 21 = .ok (.goto 4, 3) := by decide +kernel
theorem d_Md_severals_24 : decode c_Md_severals 24 = .ok (.iconst 0, 1) := by decide +kernel
theorem d_Md_severals_25 : decode c_Md_severals 25 = .ok (.ireturn, 1) := by decide +kernel
theorem d_Md_bits_0 : decode c_Md_bits 0 = .ok (.iconst 0, 1) := by decide +kernel
theorem d_Md_bits_1 : decode c_Md_bits 1 = .ok (.istore_n 1, 1) := by decide +kernel
theorem d_Md_bits_2 : decode c_Md_bits 2 = .ok (.iconst 0, 1) := by decide +kernel
theorem d_Md_bits_3 : decode c_Md_bits 3 = .ok (.istore_n 2, 1) := by decide +kernel
theorem d_Md_bits_4 : decode c_Md_bits 4 = .ok (.iload_n 2, 1) := by decide +kernel
theorem d_Md_bits_5 : decode c_Md_bits 5 = .ok (.bipush 12, 2) := by decide +kernel
theorem d_Md_bits_7 : decode c_Md_bits 7 = .ok (.if_icmp .ge 17, 3) := by decide +kernel
theorem d_Md_bits_10 : decode c_Md_bits 10 = .ok (.iload_n 1, 1) := by decide +kernel
theorem d_Md_bits_11 : decode c_Md_bits 11 = .ok (.iload_n 0, 1) := by decide +kernel
theorem d_Md_bits_12 : decode c_Md_bits 12 = .ok (.iload_n 2, 1) := by decide +kernel
theorem d_Md_bits_13 : decode c_Md_bits 13 = .ok (.ishr, 1) := by decide +kernel
theorem d_Md_bits_14 : decode c_Md_bits 14 = .ok (.iconst 1, 1) := by decide +kernel
theorem d_Md_bits_15 : decode c_Md_bits 15 = .ok (.iand, 1) := by decide +kernel
theorem d_Md_bits_16 : decode c_Md_bits 16 = .ok (.iadd, 1) := by decide +kernel
theorem d_Md_bits_17 : decode c_Md_bits 17 = .ok (.istore_n 1, 1) := by decide +kernel
theorem d_Md_bits_18 : decode c_Md_bits 18 = .ok (.iinc 2 1, 3) := by decide +kernel
theorem d_Md_bits_21 : decode c_Md_bits 21 = .ok (.goto (-17), 3) := by decide +kernel
theorem d_Md_bits_24 : decode c_Md_bits 24 = .ok (.iload_n 1, 1) := by decide +kernel
theorem d_Md_bits_25 : decode c_Md_bits 25 = .ok (.ireturn, 1) := by decide +kernel
theorem d_Md_testHolds_0 : decode c_Md_testHolds 0 = .ok (.aload_n 0, 1) := by decide +kernel
theorem d_Md_testHolds_1 : decode c_Md_testHolds 1 = .ok (.getfield 51, 3) := by decide +kernel
theorem d_Md_testHolds_4 : decode c_Md_testHolds 4 = .ok (.iconst 3, 1) := by decide +kernel
theorem d_Md_testHolds_5 : decode c_Md_testHolds 5 = .ok (.iload_n 1, 1) := by decide +kernel
theorem d_Md_testHolds_6 : decode c_Md_testHolds 6 = .ok (.imul, 1) := by decide +kernel
theorem d_Md_testHolds_7 : decode c_Md_testHolds 7 = .ok (.iload_n 2, 1) := by decide +kernel
theorem d_Md_testHolds_8 : decode c_Md_testHolds 8 = .ok (.iadd, 1) := by decide +kernel
theorem d_Md_testHolds_9 : decode c_Md_testHolds 9 = .ok (.iaload, 1) := by decide +kernel
theorem d_Md_testHolds_10 : decode c_Md_testHolds 10 = .ok (.istore 4, 2) := by decide +kernel
theorem d_Md_testHolds_12 : decode c_Md_testHolds 12 = .ok (.aload_n 0, 1) := by decide +kernel
theorem d_Md_testHolds_13 : decode c_Md_testHolds 13 = .ok (.getfield 142, 3) := by decide +kernel
theorem d_Md_testHolds_16 : decode c_Md_testHolds 16 = .ok (.iconst 0, 1) := by decide +kernel
theorem d_Md_testHolds_17 : decode c_Md_testHolds 17 = .ok (.iaload, 1) := by decide +kernel
theorem d_Md_testHolds_18 : decode c_Md_testHolds 18 = .ok (.istore 5, 2) := by decide +kernel
theorem d_Md_testHolds_20 : decode c_Md_testHolds 20 = .ok (.aload_n 0, 1) := by decide +kernel
theorem d_Md_testHolds_21 : decode c_Md_testHolds 21 = .ok (.getfield 48, 3) := by decide +kernel
theorem d_Md_testHolds_24 : decode c_Md_testHolds 24 = .ok (.iconst 3, 1) := by decide +kernel
theorem d_Md_testHolds_25 : decode c_Md_testHolds 25 = .ok (.iload_n 1, 1) := by decide +kernel
theorem d_Md_testHolds_26 : decode c_Md_testHolds 26 = .ok (.imul, 1) := by decide +kernel
theorem d_Md_testHolds_27 : decode c_Md_testHolds 27 = .ok (.iload_n 2, 1) := by decide +kernel
theorem d_Md_testHolds_28 : decode c_Md_testHolds 28 = .ok (.iadd, 1) := by decide +kernel
theorem d_Md_testHolds_29 : decode c_Md_testHolds 29 = .ok (.iaload, 1) := by decide +kernel
theorem d_Md_testHolds_30 : decode c_Md_testHolds 30 = .ok (.tableswitch 142 0 3 #[30, 63, 96, 108], 30) := by decide +kernel
theorem d_Md_testHolds_60 : decode c_Md_testHolds 60 = .ok (.iload_n 3, 1) := by decide +kernel
theorem d_Md_testHolds_61 : decode c_Md_testHolds 61 = .ok (.iconst 1, 1) := by decide +kernel
theorem d_Md_testHolds_62 : decode c_Md_testHolds 62 = .ok (.if_icmp .ne 29, 3) := by decide +kernel
theorem d_Md_testHolds_65 : decode c_Md_testHolds 65 = .ok (.aload_n 0, 1) := by decide +kernel
theorem d_Md_testHolds_66 : decode c_Md_testHolds 66 = .ok (.getfield 16, 3) := by decide +kernel
theorem d_Md_testHolds_69 : decode c_Md_testHolds 69 = .ok (.iload 5, 2) := by decide +kernel
theorem d_Md_testHolds_71 : decode c_Md_testHolds 71 = .ok (.iaload, 1) := by decide +kernel
theorem d_Md_testHolds_72 : decode c_Md_testHolds 72 = .ok (.ifCond .ne 19, 3) := by decide +kernel
theorem d_Md_testHolds_75 : decode c_Md_testHolds 75 = .ok (.aload_n 0, 1) := by decide +kernel
theorem d_Md_testHolds_76 : decode c_Md_testHolds 76 = .ok (.getfield 20, 3) := by decide +kernel
theorem d_Md_testHolds_79 : decode c_Md_testHolds 79 = .ok (.iload 5, 2) := by decide +kernel
theorem d_Md_testHolds_81 : decode c_Md_testHolds 81 = .ok (.iaload, 1) := by decide +kernel
theorem d_Md_testHolds_82 : decode c_Md_testHolds 82 = .ok (.iload 4, 2) := by decide +kernel
theorem d_Md_testHolds_84 : decode c_Md_testHolds 84 = .ok (.if_icmp .le 7, 3) := by decide +kernel
theorem d_Md_testHolds_87 : decode c_Md_testHolds 87 = .ok (.iconst 1, 1) := by decide +kernel
theorem d_Md_testHolds_88 : decode c_Md_testHolds 88 = .ok (.goto 4, 3) := by decide +kernel
theorem d_Md_testHolds_91 : decode c_Md_testHolds 91 = .ok (.iconst 0, 1) := by decide +kernel
theorem d_Md_testHolds_92 : decode c_Md_testHolds 92 = .ok (.ireturn, 1) := by decide +kernel
theorem d_Md_testHolds_93 : decode c_Md_testHolds 93 = .ok (.iload_n 3, 1) := by decide +kernel
theorem d_Md_testHolds_94 : decode c_Md_testHolds 94 = .ok (.iconst 1, 1) := by decide +kernel
theorem d_Md_testHolds_95 : decode c_Md_testHolds 95 = .ok (.if_icmp .ne 29, 3) := by decide +kernel
theorem d_Md_testHolds_98 : decode c_Md_testHolds 98 = .ok (.aload_n 0, 1) := by decide +kernel
theorem d_Md_testHolds_99 : decode c_Md_testHolds 99 = .ok (.getfield 16, 3) := by decide +kernel
theorem d_Md_testHolds_102 : decode c_Md_testHolds 102 = .ok (.iload 5, 2) := by decide +kernel
theorem d_Md_testHolds_104 : decode c_Md_testHolds 104 = .ok (.iaload, 1) := by decide +kernel
theorem d_Md_testHolds_105 : decode c_Md_testHolds 105 = .ok (.ifCond .ne 19, 3) := by decide +kernel
theorem d_Md_testHolds_108 : decode c_Md_testHolds 108 = .ok (.aload_n 0, 1) := by decide +kernel
theorem d_Md_testHolds_109 : decode c_Md_testHolds 109 = .ok (.getfield 20, 3) := by decide +kernel
theorem d_Md_testHolds_112 : decode c_Md_testHolds 112 = .ok (.iload 5, 2) := by decide +kernel
theorem d_Md_testHolds_114 : decode c_Md_testHolds 114 = .ok (.iaload, 1) := by decide +kernel
theorem d_Md_testHolds_115 : decode c_Md_testHolds 115 = .ok (.iload 4, 2) := by decide +kernel
theorem d_Md_testHolds_117 : decode c_Md_testHolds 117 = .ok (.if_icmp .ge 7, 3) := by decide +kernel
theorem d_Md_testHolds_120 : decode c_Md_testHolds 120 = .ok (.iconst 1, 1) := by decide +kernel
theorem d_Md_testHolds_121 : decode c_Md_testHolds 121 = .ok (.goto 4, 3) := by decide +kernel
theorem d_Md_testHolds_124 : decode c_Md_testHolds 124 = .ok (.iconst 0, 1) := by decide +kernel
theorem d_Md_testHolds_125 : decode c_Md_testHolds 125 = .ok (.ireturn, 1) := by decide +kernel
theorem d_Md_testHolds_126 : decode c_Md_testHolds 126 = .ok (.iload_n 3, 1) := by decide +kernel
theorem d_Md_testHolds_127 : decode c_Md_testHolds 127 = .ok (.iload 4, 2) := by decide +kernel
theorem d_Md_testHolds_129 : decode c_Md_testHolds 129 = .ok (.if_icmp .lt 7, 3) := by decide +kernel
theorem d_Md_testHolds_132 : decode c_Md_testHolds 132 = .ok (.iconst 1, 1) := by decide +kernel
theorem d_Md_testHolds_133 : decode c_Md_testHolds 133 = .ok (.goto 4, 3) := by decide +kernel
theorem d_Md_testHolds_136 : decode c_Md_testHolds 136 = .ok (.iconst 0, 1) := by decide +kernel
theorem d_Md_testHolds_137 : decode c_Md_testHolds 137 = .ok (.ireturn, 1) := by decide +kernel
theorem d_Md_testHolds_138 : decode c_Md_testHolds 138 = .ok (.iload_n 3, 1) := by decide +kernel
theorem d_Md_testHolds_139 : decode c_Md_testHolds 139 = .ok (.iconst 1, 1) := by decide +kernel
theorem d_Md_testHolds_140 : decode c_Md_testHolds 140 = .ok (.if_icmp .ne 30, 3) := by decide +kernel
theorem d_Md_testHolds_143 : decode c_Md_testHolds 143 = .ok (.aload_n 0, 1) := by decide +kernel
theorem d_Md_testHolds_144 : decode c_Md_testHolds 144 = .ok (.getfield 16, 3) := by decide +kernel
theorem d_Md_testHolds_147 : decode c_Md_testHolds 147 = .ok (.iload 5, 2) := by decide +kernel
theorem d_Md_testHolds_149 : decode c_Md_testHolds 149 = .ok (.iaload, 1) := by decide +kernel
theorem d_Md_testHolds_150 : decode c_Md_testHolds 150 = .ok (.iconst 1, 1) := by decide +kernel
theorem d_Md_testHolds_151 : decode c_Md_testHolds 151 = .ok (.if_icmp .ne 19, 3) := by decide +kernel
theorem d_Md_testHolds_154 : decode c_Md_testHolds 154 = .ok (.aload_n 0, 1) := by decide +kernel
theorem d_Md_testHolds_155 : decode c_Md_testHolds 155 = .ok (.getfield 20, 3) := by decide +kernel
theorem d_Md_testHolds_158 : decode c_Md_testHolds 158 = .ok (.iload 5, 2) := by decide +kernel
theorem d_Md_testHolds_160 : decode c_Md_testHolds 160 = .ok (.iaload, 1) := by decide +kernel
theorem d_Md_testHolds_161 : decode c_Md_testHolds 161 = .ok (.iload 4, 2) := by decide +kernel
theorem d_Md_testHolds_163 : decode c_Md_testHolds 163 = .ok (.if_icmp .ne 7, 3) := by decide +kernel
theorem d_Md_testHolds_166 : decode c_Md_testHolds 166 = .ok (.iconst 1, 1) := by decide +kernel
theorem d_Md_testHolds_167 : decode c_Md_testHolds 167 = .ok (.goto 4, 3) := by decide +kernel
theorem d_Md_testHolds_170 : decode c_Md_testHolds 170 = .ok (.iconst 0, 1) := by decide +kernel
theorem d_Md_testHolds_171 : decode c_Md_testHolds 171 = .ok (.ireturn, 1) := by decide +kernel
theorem d_Md_testHolds_172 : decode c_Md_testHolds 172 = .ok (.iload_n 3, 1) := by decide +kernel
theorem d_Md_testHolds_173 : decode c_Md_testHolds 173 = .ok (.iconst 1, 1) := by decide +kernel
theorem d_Md_testHolds_174 : decode c_Md_testHolds 174 = .ok (.if_icmp .ne 17, 3) := by decide +kernel
theorem d_Md_testHolds_177 : decode c_Md_testHolds 177 = .ok (.aload_n 0, 1) := by decide +kernel
theorem d_Md_testHolds_178 : decode c_Md_testHolds 178 = .ok (.getfield 16, 3) := by decide +kernel
theorem d_Md_testHolds_181 : decode c_Md_testHolds 181 = .ok (.iload 5, 2) := by decide +kernel
theorem d_Md_testHolds_183 : decode c_Md_testHolds 183 = .ok (.iaload, 1) := by decide +kernel
theorem d_Md_testHolds_184 : decode c_Md_testHolds 184 = .ok (.ifCond .eq 7, 3) := by decide +kernel
theorem d_Md_testHolds_187 : decode c_Md_testHolds 187 = .ok (.iconst 1, 1) := by decide +kernel
theorem d_Md_testHolds_188 : decode c_Md_testHolds 188 = .ok (.goto 4, 3) := by decide +kernel
theorem d_Md_testHolds_191 : decode c_Md_testHolds 191 = .ok (.iconst 0, 1) := by decide +kernel
theorem d_Md_testHolds_192 : decode c_Md_testHolds 192 = .ok (.ireturn, 1) := by decide +kernel
theorem d_Md_binds_0 : decode c_Md_binds 0 = .ok (.aload_n 0, 1) := by decide +kernel
theorem d_Md_binds_1 : decode c_Md_binds 1 = .ok (.getfield 23, 3) := by decide +kernel
theorem d_Md_binds_4 : decode c_Md_binds 4 = .ok (.iload_n 1, 1) := by decide +kernel
theorem d_Md_binds_5 : decode c_Md_binds 5 = .ok (.iaload, 1) := by decide +kernel
theorem d_Md_binds_6 : decode c_Md_binds 6 = .ok (.iconst 1, 1) := by decide +kernel
theorem d_Md_binds_7 : decode c_Md_binds 7 = .ok (.if_icmp .ne 24, 3) := by decide +kernel
theorem d_Md_binds_10 : decode c_Md_binds 10 = .ok (.iload_n 2, 1) := by decide +kernel
theorem d_Md_binds_11 : decode c_Md_binds 11 = .ok (.iconst 1, 1) := by decide +kernel
theorem d_Md_binds_12 : decode c_Md_binds 12 = .ok (.if_icmp .ne 17, 3) := by decide +kernel
theorem d_Md_binds_15 : decode c_Md_binds 15 = .ok (.aload_n 0, 1) := by decide +kernel
theorem d_Md_binds_16 : decode c_Md_binds 16 = .ok (.getfield 16, 3) := by decide +kernel
theorem d_Md_binds_19 : decode c_Md_binds 19 = .ok (.aload_n 0, 1) := by decide +kernel
theorem d_Md_binds_20 : decode c_Md_binds 20 = .ok (.getfield 142, 3) := by decide +kernel
theorem d_Md_binds_23 : decode c_Md_binds 23 = .ok (.iconst 0, 1) := by decide +kernel
theorem d_Md_binds_24 : decode c_Md_binds 24 = .ok (.iaload, 1) := by decide +kernel
theorem d_Md_binds_25 : decode c_Md_binds 25 = .ok (.iaload, 1) := by decide +kernel
theorem d_Md_binds_26 : decode c_Md_binds 26 = .ok (.ifCond .eq 5, 3) := by decide +kernel
theorem d_Md_binds_29 : decode c_Md_binds 29 = .ok (.iconst 0, 1) := by decide +kernel
theorem d_Md_binds_30 : decode c_Md_binds 30 = .ok (.ireturn, 1) := by decide +kernel
theorem d_Md_binds_31 : decode c_Md_binds 31 = .ok (.iconst 0, 1) := by decide +kernel
theorem d_Md_binds_32 : decode c_Md_binds 32 = .ok (.istore_n 3, 1) := by decide +kernel
theorem d_Md_binds_33 : decode c_Md_binds 33 = .ok (.iload_n 3, 1) := by decide +kernel
theorem d_Md_binds_34 : decode c_Md_binds 34 = .ok (.aload_n 0, 1) := by decide +kernel
theorem d_Md_binds_35 : decode c_Md_binds 35 = .ok (.getfield 45, 3) := by decide +kernel
theorem d_Md_binds_38 : decode c_Md_binds 38 = .ok (.iload_n 1, 1) := by decide +kernel
theorem d_Md_binds_39 : decode c_Md_binds 39 = .ok (.iaload, 1) := by decide +kernel
theorem d_Md_binds_40 : decode c_Md_binds 40 = .ok (.if_icmp .ge 21, 3) := by decide +kernel
theorem d_Md_binds_43 : decode c_Md_binds 43 = .ok (.aload_n 0, 1) := by decide +kernel
theorem d_Md_binds_44 : decode c_Md_binds 44 = .ok (.iload_n 1, 1) := by decide +kernel
theorem d_Md_binds_45 : decode c_Md_binds 45 = .ok (.iload_n 3, 1) := by decide +kernel
theorem d_Md_binds_46 : decode c_Md_binds 46 = .ok (.iload_n 2, 1) := by decide +kernel
theorem d_Md_binds_47 : decode c_Md_binds 47 = .ok (.invokevirtual 145, 3) := by decide +kernel
theorem d_Md_binds_50 : decode c_Md_binds 50 = .ok (.ifCond .ne 5, 3) := by decide +kernel
theorem d_Md_binds_53 : decode c_Md_binds 53 = .ok (.iconst 0, 1) := by decide +kernel
theorem d_Md_binds_54 : decode c_Md_binds 54 = .ok (.ireturn, 1) := by decide +kernel
theorem d_Md_binds_55 : decode c_Md_binds 55 = .ok (.iinc 3 1, 3) := by decide +kernel
theorem d_Md_binds_58 : decode c_Md_binds 58 = .ok (.goto (-25), 3) := by decide +kernel
theorem d_Md_binds_61 : decode c_Md_binds 61 = .ok (.aload_n 0, 1) := by decide +kernel
theorem d_Md_binds_62 : decode c_Md_binds 62 = .ok (.getfield 20, 3) := by decide +kernel
theorem d_Md_binds_65 : decode c_Md_binds 65 = .ok (.iload_n 1, 1) := by decide +kernel
theorem d_Md_binds_66 : decode c_Md_binds 66 = .ok (.iaload, 1) := by decide +kernel
theorem d_Md_binds_67 : decode c_Md_binds 67 = .ok (.istore_n 3, 1) := by decide +kernel
theorem d_Md_binds_68 : decode c_Md_binds 68 = .ok (.aload_n 0, 1) := by decide +kernel
theorem d_Md_binds_69 : decode c_Md_binds 69 = .ok (.getfield 75, 3) := by decide +kernel
theorem d_Md_binds_72 : decode c_Md_binds 72 = .ok (.iload_n 3, 1) := by decide +kernel
theorem d_Md_binds_73 : decode c_Md_binds 73 = .ok (.iaload, 1) := by decide +kernel
theorem d_Md_binds_74 : decode c_Md_binds 74 = .ok (.ifCond .lt 60, 3) := by decide +kernel
theorem d_Md_binds_77 : decode c_Md_binds 77 = .ok (.aload_n 0, 1) := by decide +kernel
theorem d_Md_binds_78 : decode c_Md_binds 78 = .ok (.getfield 75, 3) := by decide +kernel
theorem d_Md_binds_81 : decode c_Md_binds 81 = .ok (.iload_n 3, 1) := by decide +kernel
theorem d_Md_binds_82 : decode c_Md_binds 82 = .ok (.iaload, 1) := by decide +kernel
theorem d_Md_binds_83 : decode c_Md_binds 83 = .ok (.iload_n 2, 1) := by decide +kernel
theorem d_Md_binds_84 : decode c_Md_binds 84 = .ok (.if_icmp .eq 5, 3) := by decide +kernel
theorem d_Md_binds_87 : decode c_Md_binds 87 = .ok (.iconst 0, 1) := by decide +kernel
theorem d_Md_binds_88 : decode c_Md_binds 88 = .ok (.ireturn, 1) := by decide +kernel
theorem d_Md_binds_89 : decode c_Md_binds 89 = .ok (.iconst 0, 1) := by decide +kernel
theorem d_Md_binds_90 : decode c_Md_binds 90 = .ok (.istore 4, 2) := by decide +kernel
theorem d_Md_binds_92 : decode c_Md_binds 92 = .ok (.iload 4, 2) := by decide +kernel
theorem d_Md_binds_94 : decode c_Md_binds 94 = .ok (.iload_n 2, 1) := by decide +kernel
theorem d_Md_binds_95 : decode c_Md_binds 95 = .ok (.if_icmp .ge 37, 3) := by decide +kernel
theorem d_Md_binds_98 : decode c_Md_binds 98 = .ok (.aload_n 0, 1) := by decide +kernel
theorem d_Md_binds_99 : decode c_Md_binds 99 = .ok (.aload_n 0, 1) := by decide +kernel
theorem d_Md_binds_100 : decode c_Md_binds 100 = .ok (.getfield 78, 3) := by decide +kernel
theorem d_Md_binds_103 : decode c_Md_binds 103 = .ok (.bipush 12, 2) := by decide +kernel
theorem d_Md_binds_105 : decode c_Md_binds 105 = .ok (.iload_n 3, 1) := by decide +kernel
theorem d_Md_binds_106 : decode c_Md_binds 106 = .ok (.imul, 1) := by decide +kernel
theorem d_Md_binds_107 : decode c_Md_binds 107 = .ok (.iload 4, 2) := by decide +kernel
theorem d_Md_binds_109 : decode c_Md_binds 109 = .ok (.iadd, 1) := by decide +kernel
theorem d_Md_binds_110 : decode c_Md_binds 110 = .ok (.iaload, 1) := by decide +kernel
theorem d_Md_binds_111 : decode c_Md_binds 111 = .ok (.aload_n 0, 1) := by decide +kernel
theorem d_Md_binds_112 : decode c_Md_binds 112 = .ok (.getfield 142, 3) := by decide +kernel
theorem d_Md_binds_115 : decode c_Md_binds 115 = .ok (.iload 4, 2) := by decide +kernel
theorem d_Md_binds_117 : decode c_Md_binds 117 = .ok (.iaload, 1) := by decide +kernel
theorem d_Md_binds_118 : decode c_Md_binds 118 = .ok (.invokevirtual 149, 3) := by decide +kernel
theorem d_Md_binds_121 : decode c_Md_binds 121 = .ok (.ifCond .eq 5, 3) := by decide +kernel
theorem d_Md_binds_124 : decode c_Md_binds 124 = .ok (.iconst 0, 1) := by decide +kernel
theorem d_Md_binds_125 : decode c_Md_binds 125 = .ok (.ireturn, 1) := by decide +kernel
theorem d_Md_binds_126 : decode c_Md_binds 126 = .ok (.iinc 4 1, 3) := by decide +kernel
theorem d_Md_binds_129 : decode c_Md_binds 129 = .ok (.goto (-37), 3) := by decide +kernel
theorem d_Md_binds_132 : decode c_Md_binds 132 = .ok (.iconst 1, 1) := by decide +kernel
theorem d_Md_binds_133 : decode c_Md_binds 133 = .ok (.ireturn, 1) := by decide +kernel
theorem d_Md_binds_134 : decode c_Md_binds 134 = .ok (.aload_n 0, 1) := by decide +kernel
theorem d_Md_binds_135 : decode c_Md_binds 135 = .ok (.getfield 75, 3) := by decide +kernel
theorem d_Md_binds_138 : decode c_Md_binds 138 = .ok (.iload_n 3, 1) := by decide +kernel
theorem d_Md_binds_139 : decode c_Md_binds 139 = .ok (.iload_n 2, 1) := by decide +kernel
theorem d_Md_binds_140 : decode c_Md_binds 140 = .ok (.iastore, 1) := by decide +kernel
theorem d_Md_binds_141 : decode c_Md_binds 141 = .ok (.iconst 0, 1) := by decide +kernel
theorem d_Md_binds_142 : decode c_Md_binds 142 = .ok (.istore 4, 2) := by decide +kernel
theorem d_Md_binds_144 : decode c_Md_binds 144 = .ok (.iload 4, 2) := by decide +kernel
theorem d_Md_binds_146 : decode c_Md_binds 146 = .ok (.iload_n 2, 1) := by decide +kernel
theorem d_Md_binds_147 : decode c_Md_binds 147 = .ok (.if_icmp .ge 28, 3) := by decide +kernel
theorem d_Md_binds_150 : decode c_Md_binds 150 = .ok (.aload_n 0, 1) := by decide +kernel
theorem d_Md_binds_151 : decode c_Md_binds 151 = .ok (.getfield 78, 3) := by decide +kernel
theorem d_Md_binds_154 : decode c_Md_binds 154 = .ok (.bipush 12, 2) := by decide +kernel
theorem d_Md_binds_156 : decode c_Md_binds 156 = .ok (.iload_n 3, 1) := by decide +kernel
theorem d_Md_binds_157 : decode c_Md_binds 157 = .ok (.imul, 1) := by decide +kernel
theorem d_Md_binds_158 : decode c_Md_binds 158 = .ok (.iload 4, 2) := by decide +kernel
theorem d_Md_binds_160 : decode c_Md_binds 160 = .ok (.iadd, 1) := by decide +kernel
theorem d_Md_binds_161 : decode c_Md_binds 161 = .ok (.aload_n 0, 1) := by decide +kernel
theorem d_Md_binds_162 : decode c_Md_binds 162 = .ok (.getfield 142, 3) := by decide +kernel
theorem d_Md_binds_165 : decode c_Md_binds 165 = .ok (.iload 4, 2) := by decide +kernel
theorem d_Md_binds_167 : decode c_Md_binds 167 = .ok (.iaload, 1) := by decide +kernel
theorem d_Md_binds_168 : decode c_Md_binds 168 = .ok (.iastore, 1) := by decide +kernel
theorem d_Md_binds_169 : decode c_Md_binds 169 = .ok (.iinc 4 1, 3) := by decide +kernel
theorem d_Md_binds_172 : decode c_Md_binds 172 = .ok (.goto (-28), 3) := by decide +kernel
theorem d_Md_binds_175 : decode c_Md_binds 175 = .ok (.aload_n 0, 1) := by decide +kernel
theorem d_Md_binds_176 : decode c_Md_binds 176 = .ok (.getfield 84, 3) := by decide +kernel
theorem d_Md_binds_179 : decode c_Md_binds 179 = .ok (.aload_n 0, 1) := by decide +kernel
theorem d_Md_binds_180 : decode c_Md_binds 180 = .ok (.getfield 81, 3) := by decide +kernel
theorem d_Md_binds_183 : decode c_Md_binds 183 = .ok (.iload_n 3, 1) := by decide +kernel
theorem d_Md_binds_184 : decode c_Md_binds 184 = .ok (.iastore, 1) := by decide +kernel
theorem d_Md_binds_185 : decode c_Md_binds 185 = .ok (.aload_n 0, 1) := by decide +kernel
theorem d_Md_binds_186 : decode c_Md_binds 186 = .ok (.dup, 1) := by decide +kernel
theorem d_Md_binds_187 : decode c_Md_binds 187 = .ok (.getfield 81, 3) := by decide +kernel
theorem d_Md_binds_190 : decode c_Md_binds 190 = .ok (.iconst 1, 1) := by decide +kernel
theorem d_Md_binds_191 : decode c_Md_binds 191 = .ok (.iadd, 1) := by decide +kernel
theorem d_Md_binds_192 : decode c_Md_binds 192 = .ok (.putfield 81, 3) := by decide +kernel
theorem d_Md_binds_195 : decode c_Md_binds 195 = .ok (.iconst 1, 1) := by decide +kernel
theorem d_Md_binds_196 : decode c_Md_binds 196 = .ok (.ireturn, 1) := by decide +kernel
theorem d_Md_goal_0 : decode c_Md_goal 0 = .ok (.aload_n 0, 1) := by decide +kernel
theorem d_Md_goal_1 : decode c_Md_goal 1 = .ok (.getfield 103, 3) := by decide +kernel
theorem d_Md_goal_4 : decode c_Md_goal 4 = .ok (.aload_n 0, 1) := by decide +kernel
theorem d_Md_goal_5 : decode c_Md_goal 5 = .ok (.getfield 100, 3) := by decide +kernel
theorem d_Md_goal_8 : decode c_Md_goal 8 = .ok (.iload_n 1, 1) := by decide +kernel
theorem d_Md_goal_9 : decode c_Md_goal 9 = .ok (.iastore, 1) := by decide +kernel
theorem d_Md_goal_10 : decode c_Md_goal 10 = .ok (.aload_n 0, 1) := by decide +kernel
theorem d_Md_goal_11 : decode c_Md_goal 11 = .ok (.getfield 106, 3) := by decide +kernel
theorem d_Md_goal_14 : decode c_Md_goal 14 = .ok (.aload_n 0, 1) := by decide +kernel
theorem d_Md_goal_15 : decode c_Md_goal 15 = .ok (.getfield 100, 3) := by decide +kernel
theorem d_Md_goal_18 : decode c_Md_goal 18 = .ok (.iload_n 2, 1) := by decide +kernel
theorem d_Md_goal_19 : decode c_Md_goal 19 = .ok (.iastore, 1) := by decide +kernel
theorem d_Md_goal_20 : decode c_Md_goal 20 = .ok (.aload_n 0, 1) := by decide +kernel
theorem d_Md_goal_21 : decode c_Md_goal 21 = .ok (.getfield 109, 3) := by decide +kernel
theorem d_Md_goal_24 : decode c_Md_goal 24 = .ok (.aload_n 0, 1) := by decide +kernel
theorem d_Md_goal_25 : decode c_Md_goal 25 = .ok (.getfield 100, 3) := by decide +kernel
theorem d_Md_goal_28 : decode c_Md_goal 28 = .ok (.iload_n 3, 1) := by decide +kernel
theorem d_Md_goal_29 : decode c_Md_goal 29 = .ok (.iastore, 1) := by decide +kernel
theorem d_Md_goal_30 : decode c_Md_goal 30 = .ok (.aload_n 0, 1) := by decide +kernel
theorem d_Md_goal_31 : decode c_Md_goal 31 = .ok (.getfield 112, 3) := by decide +kernel
theorem d_Md_goal_34 : decode c_Md_goal 34 = .ok (.aload_n 0, 1) := by decide +kernel
theorem d_Md_goal_35 : decode c_Md_goal 35 = .ok (.getfield 100, 3) := by decide +kernel
theorem d_Md_goal_38 : decode c_Md_goal 38 = .ok (.iload 4, 2) := by decide +kernel
theorem d_Md_goal_40 : decode c_Md_goal 40 = .ok (.iastore, 1) := by decide +kernel
theorem d_Md_goal_41 : decode c_Md_goal 41 = .ok (.aload_n 0, 1) := by decide +kernel
theorem d_Md_goal_42 : decode c_Md_goal 42 = .ok (.getfield 115, 3) := by decide +kernel
theorem d_Md_goal_45 : decode c_Md_goal 45 = .ok (.aload_n 0, 1) := by decide +kernel
theorem d_Md_goal_46 : decode c_Md_goal 46 = .ok (.getfield 100, 3) := by decide +kernel
theorem d_Md_goal_49 : decode c_Md_goal 49 = .ok (.iload 5, 2) := by decide +kernel
theorem d_Md_goal_51 : decode c_Md_goal 51 = .ok (.iastore, 1) := by decide +kernel
theorem d_Md_goal_52 : decode c_Md_goal 52 = .ok (.aload_n 0, 1) := by decide +kernel
theorem d_Md_goal_53 : decode c_Md_goal 53 = .ok (.dup, 1) := by decide +kernel
theorem d_Md_goal_54 : decode c_Md_goal 54 = .ok (.getfield 100, 3) := by decide +kernel
theorem d_Md_goal_57 : decode c_Md_goal 57 = .ok (.iconst 1, 1) := by decide +kernel
theorem d_Md_goal_58 : decode c_Md_goal 58 = .ok (.iadd, 1) := by decide +kernel
theorem d_Md_goal_59 : decode c_Md_goal 59 = .ok (.putfield 100, 3) := by decide +kernel
theorem d_Md_goal_62 : decode c_Md_goal 62 = .ok (.aload_n 0, 1) := by decide +kernel
theorem d_Md_goal_63 : decode c_Md_goal 63 = .ok (.getfield 100, 3) := by decide +kernel
theorem d_Md_goal_66 : decode c_Md_goal 66 = .ok (.iconst 1, 1) := by decide +kernel
theorem d_Md_goal_67 : decode c_Md_goal 67 = .ok (.isub, 1) := by decide +kernel
theorem d_Md_goal_68 : decode c_Md_goal 68 = .ok (.ireturn, 1) := by decide +kernel
theorem d_Md_puts_0 : decode c_Md_puts 0 = .ok (.aload_n 0, 1) := by decide +kernel
theorem d_Md_puts_1 : decode c_Md_puts 1 = .ok (.getfield 16, 3) := by decide +kernel
theorem d_Md_puts_4 : decode c_Md_puts 4 = .ok (.iload_n 1, 1) := by decide +kernel
theorem d_Md_puts_5 : decode c_Md_puts 5 = .ok (.iaload, 1) := by decide +kernel
theorem d_Md_puts_6 : decode c_Md_puts 6 = .ok (.iconst 2, 1) := by decide +kernel
theorem d_Md_puts_7 : decode c_Md_puts 7 = .ok (.if_icmp .ne 19, 3) := by decide +kernel
theorem d_Md_puts_10 : decode c_Md_puts 10 = .ok (.aload_n 0, 1) := by decide +kernel
theorem d_Md_puts_11 : decode c_Md_puts 11 = .ok (.iload_n 1, 1) := by decide +kernel
theorem d_Md_puts_12 : decode c_Md_puts 12 = .ok (.iload_n 2, 1) := by decide +kernel
theorem d_Md_puts_13 : decode c_Md_puts 13 = .ok (.invokevirtual 153, 3) := by decide +kernel
theorem d_Md_puts_16 : decode c_Md_puts 16 = .ok (.ifCond .eq 7, 3) := by decide +kernel
theorem d_Md_puts_19 : decode c_Md_puts 19 = .ok (.iload_n 3, 1) := by decide +kernel
theorem d_Md_puts_20 : decode c_Md_puts 20 = .ok (.goto 5, 3) := by decide +kernel
theorem d_Md_puts_23 : decode c_Md_puts 23 = .ok (.bipush (-2), 2) := by decide +kernel
theorem d_Md_puts_25 : decode c_Md_puts 25 = .ok (.ireturn, 1) := by decide +kernel
theorem d_Md_puts_26 : decode c_Md_puts 26 = .ok (.aload_n 0, 1) := by decide +kernel
theorem d_Md_puts_27 : decode c_Md_puts 27 = .ok (.getfield 142, 3) := by decide +kernel
theorem d_Md_puts_30 : decode c_Md_puts 30 = .ok (.iconst 0, 1) := by decide +kernel
theorem d_Md_puts_31 : decode c_Md_puts 31 = .ok (.iaload, 1) := by decide +kernel
theorem d_Md_puts_32 : decode c_Md_puts 32 = .ok (.istore 4, 2) := by decide +kernel
theorem d_Md_puts_34 : decode c_Md_puts 34 = .ok (.aload_n 0, 1) := by decide +kernel
theorem d_Md_puts_35 : decode c_Md_puts 35 = .ok (.getfield 16, 3) := by decide +kernel
theorem d_Md_puts_38 : decode c_Md_puts 38 = .ok (.iload 4, 2) := by decide +kernel
theorem d_Md_puts_40 : decode c_Md_puts 40 = .ok (.iaload, 1) := by decide +kernel
theorem d_Md_puts_41 : decode c_Md_puts 41 = .ok (.aload_n 0, 1) := by decide +kernel
theorem d_Md_puts_42 : decode c_Md_puts 42 = .ok (.getfield 16, 3) := by decide +kernel
theorem d_Md_puts_45 : decode c_Md_puts 45 = .ok (.iload_n 1, 1) := by decide +kernel
theorem d_Md_puts_46 : decode c_Md_puts 46 = .ok (.iaload, 1) := by decide +kernel
theorem d_Md_puts_47 : decode c_Md_puts 47 = .ok (.if_icmp .ne 19, 3) := by decide +kernel
theorem d_Md_puts_50 : decode c_Md_puts 50 = .ok (.aload_n 0, 1) := by decide +kernel
theorem d_Md_puts_51 : decode c_Md_puts 51 = .ok (.getfield 20, 3) := by decide +kernel
theorem d_Md_puts_54 : decode c_Md_puts 54 = .ok (.iload 4, 2) := by decide +kernel
theorem d_Md_puts_56 : decode c_Md_puts 56 = .ok (.iaload, 1) := by decide +kernel
theorem d_Md_puts_57 : decode c_Md_puts 57 = .ok (.aload_n 0, 1) := by decide +kernel
theorem d_Md_puts_58 : decode c_Md_puts 58 = .ok (.getfield 20, 3) := by decide +kernel
theorem d_Md_puts_61 : decode c_Md_puts 61 = .ok (.iload_n 1, 1) := by decide +kernel
theorem d_Md_puts_62 : decode c_Md_puts 62 = .ok (.iaload, 1) := by decide +kernel
theorem d_Md_puts_63 : decode c_Md_puts 63 = .ok (.if_icmp .eq 6, 3) := by decide +kernel
theorem d_Md_puts_66 : decode c_Md_puts 66 = .ok (.bipush (-2), 2) := by decide +kernel
theorem d_Md_puts_68 : decode c_Md_puts 68 = .ok (.ireturn, 1) := by decide +kernel
theorem d_Md_puts_69 : decode c_Md_puts 69 = .ok (.aload_n 0, 1) := by decide +kernel
theorem d_Md_puts_70 : decode c_Md_puts 70 = .ok (.getfield 16, 3) := by decide +kernel
theorem d_Md_puts_73 : decode c_Md_puts 73 = .ok (.iload_n 1, 1) := by decide +kernel
theorem d_Md_puts_74 : decode c_Md_puts 74 = .ok (.iaload, 1) := by decide +kernel
theorem d_Md_puts_75 : decode c_Md_puts 75 = .ok (.ifCond .ne 7, 3) := by decide +kernel
theorem d_Md_puts_78 : decode c_Md_puts 78 = .ok (.iload_n 3, 1) := by decide +kernel
theorem d_Md_puts_79 : decode c_Md_puts 79 = .ok (.goto 13, 3) := by decide +kernel
theorem d_Md_puts_82 : decode c_Md_puts 82 = .ok (.aload_n 0, 1) := by decide +kernel
theorem d_Md_puts_83 : decode c_Md_puts 83 = .ok (.iload_n 1, 1) := by decide +kernel
theorem d_Md_puts_84 : decode c_Md_puts 84 = .ok (.iload 4, 2) := by decide +kernel
theorem d_Md_puts_86 : decode c_Md_puts 86 = .ok (.iconst 0, 1) := by decide +kernel
theorem d_Md_puts_87 : decode c_Md_puts 87 = .ok (.iconst 0, 1) := by decide +kernel
theorem d_Md_puts_88 : decode c_Md_puts 88 = .ok (.iload_n 3, 1) := by decide +kernel
theorem d_Md_puts_89 : decode c_Md_puts 89 = .ok (.invokevirtual 157, 3) := by decide +kernel
theorem d_Md_puts_92 : decode c_Md_puts 92 = .ok (.ireturn, 1) := by decide +kernel
theorem d_Md_bit_0 : decode c_Md_bit 0 = .ok (.iconst 1, 1) := by decide +kernel
theorem d_Md_bit_1 : decode c_Md_bit 1 = .ok (.bipush 11, 2) := by decide +kernel
theorem d_Md_bit_3 : decode c_Md_bit 3 = .ok (.iload_n 0, 1) := by decide +kernel
theorem d_Md_bit_4 : decode c_Md_bit 4 = .ok (.isub, 1) := by decide +kernel
theorem d_Md_bit_5 : decode c_Md_bit 5 = .ok (.ishl, 1) := by decide +kernel
theorem d_Md_bit_6 : decode c_Md_bit 6 = .ok (.ireturn, 1) := by decide +kernel
theorem d_Md_leftOf_0 : decode c_Md_leftOf 0 = .ok (.iconst 0, 1) := by decide +kernel
theorem d_Md_leftOf_1 : decode c_Md_leftOf 1 = .ok (.istore_n 2, 1) := by decide +kernel
theorem d_Md_leftOf_2 : decode c_Md_leftOf 2 = .ok (.iconst 0, 1) := by decide +kernel
theorem d_Md_leftOf_3 : decode c_Md_leftOf 3 = .ok (.istore_n 3, 1) := by decide +kernel
theorem d_Md_leftOf_4 : decode c_Md_leftOf 4 = .ok (.iload_n 3, 1) := by decide +kernel
theorem d_Md_leftOf_5 : decode c_Md_leftOf 5 = .ok (.aload_n 0, 1) := by decide +kernel
theorem d_Md_leftOf_6 : decode c_Md_leftOf 6 = .ok (.getfield 26, 3) := by decide +kernel
theorem d_Md_leftOf_9 : decode c_Md_leftOf 9 = .ok (.aload_n 0, 1) := by decide +kernel
theorem d_Md_leftOf_10 : decode c_Md_leftOf 10 = .ok (.getfield 106, 3) := by decide +kernel
theorem d_Md_leftOf_13 : decode c_Md_leftOf 13 = .ok (.iload_n 1, 1) := by decide +kernel
theorem d_Md_leftOf_14 : decode c_Md_leftOf 14 = .ok (.iaload, 1) := by decide +kernel
theorem d_Md_leftOf_15 : decode c_Md_leftOf 15 = .ok (.iaload, 1) := by decide +kernel
theorem d_Md_leftOf_16 : decode c_Md_leftOf 16 = .ok (.if_icmp .ge 16, 3) := by decide +kernel
theorem d_Md_leftOf_19 : decode c_Md_leftOf 19 = .ok (.iload_n 2, 1) := by decide +kernel
theorem d_Md_leftOf_20 : decode c_Md_leftOf 20 = .ok (.iload_n 3, 1) := by decide +kernel
theorem d_Md_leftOf_21 : decode c_Md_leftOf 21 = .ok (.invokestatic 161, 3) := by decide +kernel
theorem d_Md_leftOf_24 : decode c_Md_leftOf 24 = .ok (.ior, 1) := by decide +kernel
theorem d_Md_leftOf_25 : decode c_Md_leftOf 25 = .ok (.istore_n 2, 1) := by decide +kernel
theorem d_Md_leftOf_26 : decode c_Md_leftOf 26 = .ok (.iinc 3 1, 3) := by decide +kernel
theorem d_Md_leftOf_29 : decode c_Md_leftOf 29 = .ok (.goto (-25), 3) := by decide +kernel
theorem d_Md_leftOf_32 : decode c_Md_leftOf 32 = .ok (.iload_n 2, 1) := by decide +kernel
theorem d_Md_leftOf_33 : decode c_Md_leftOf 33 = .ok (.aload_n 0, 1) := by decide +kernel
theorem d_Md_leftOf_34 : decode c_Md_leftOf 34 = .ok (.getfield 112, 3) := by decide +kernel
theorem d_Md_leftOf_37 : decode c_Md_leftOf 37 = .ok (.iload_n 1, 1) := by decide +kernel
theorem d_Md_leftOf_38 : decode c_Md_leftOf 38 = .ok (.iaload, 1) := by decide +kernel
theorem d_Md_leftOf_39 : decode c_Md_leftOf 39 = .ok (.iconst (-1), 1) := by decide +kernel
theorem d_Md_leftOf_40 : decode c_Md_leftOf 40 = .ok (.ixor, 1) := by decide +kernel
theorem d_Md_leftOf_41 : decode c_Md_leftOf 41 = .ok (.iand, 1) := by decide +kernel
theorem d_Md_leftOf_42 : decode c_Md_leftOf 42 = .ok (.ireturn, 1) := by decide +kernel
theorem d_Md_takenNext_0 : decode c_Md_takenNext 0 = .ok (.aload_n 0, 1) := by decide +kernel
theorem d_Md_takenNext_1 : decode c_Md_takenNext 1 = .ok (.getfield 29, 3) := by decide +kernel
theorem d_Md_takenNext_4 : decode c_Md_takenNext 4 = .ok (.bipush 12, 2) := by decide +kernel
theorem d_Md_takenNext_6 : decode c_Md_takenNext 6 = .ok (.aload_n 0, 1) := by decide +kernel
theorem d_Md_takenNext_7 : decode c_Md_takenNext 7 = .ok (.getfield 103, 3) := by decide +kernel
theorem d_Md_takenNext_10 : decode c_Md_takenNext 10 = .ok (.iload_n 1, 1) := by decide +kernel
theorem d_Md_takenNext_11 : decode c_Md_takenNext 11 = .ok (.iaload, 1) := by decide +kernel
theorem d_Md_takenNext_12 : decode c_Md_takenNext 12 = .ok (.imul, 1) := by decide +kernel
theorem d_Md_takenNext_13 : decode c_Md_takenNext 13 = .ok (.aload_n 0, 1) := by decide +kernel
theorem d_Md_takenNext_14 : decode c_Md_takenNext 14 = .ok (.getfield 109, 3) := by decide +kernel
theorem d_Md_takenNext_17 : decode c_Md_takenNext 17 = .ok (.iload_n 1, 1) := by decide +kernel
theorem d_Md_takenNext_18 : decode c_Md_takenNext 18 = .ok (.iaload, 1) := by decide +kernel
theorem d_Md_takenNext_19 : decode c_Md_takenNext 19 = .ok (.iadd, 1) := by decide +kernel
theorem d_Md_takenNext_20 : decode c_Md_takenNext 20 = .ok (.iaload, 1) := by decide +kernel
theorem d_Md_takenNext_21 : decode c_Md_takenNext 21 = .ok (.istore_n 3, 1) := by decide +kernel
theorem d_Md_takenNext_22 : decode c_Md_takenNext 22 = .ok (.aload_n 0, 1) := by decide +kernel
theorem d_Md_takenNext_23 : decode c_Md_takenNext 23 = .ok (.iload_n 1, 1) := by decide +kernel
theorem d_Md_takenNext_24 : decode c_Md_takenNext 24 = .ok (.invokevirtual 165, 3) := by decide +kernel
theorem d_Md_takenNext_27 : decode c_Md_takenNext 27 = .ok (.istore 4, 2) := by decide +kernel
theorem d_Md_takenNext_29 : decode c_Md_takenNext 29 = .ok (.aload_n 0, 1) := by decide +kernel
theorem d_Md_takenNext_30 : decode c_Md_takenNext 30 = .ok (.getfield 20, 3) := by decide +kernel
theorem d_Md_takenNext_33 : decode c_Md_takenNext 33 = .ok (.aload_n 0, 1) := by decide +kernel
theorem d_Md_takenNext_34 : decode c_Md_takenNext 34 = .ok (.getfield 103, 3) := by decide +kernel
theorem d_Md_takenNext_37 : decode c_Md_takenNext 37 = .ok (.iload_n 1, 1) := by decide +kernel
theorem d_Md_takenNext_38 : decode c_Md_takenNext 38 = .ok (.iaload, 1) := by decide +kernel
theorem d_Md_takenNext_39 : decode c_Md_takenNext 39 = .ok (.iaload, 1) := by decide +kernel
theorem d_Md_takenNext_40 : decode c_Md_takenNext 40 = .ok (.invokestatic 168, 3) := by decide +kernel
theorem d_Md_takenNext_43 : decode c_Md_takenNext 43 = .ok (.istore 5, 2) := by decide +kernel
theorem d_Md_takenNext_45 : decode c_Md_takenNext 45 = .ok (.aload_n 0, 1) := by decide +kernel
theorem d_Md_takenNext_46 : decode c_Md_takenNext 46 = .ok (.iload_n 3, 1) := by decide +kernel
theorem d_Md_takenNext_47 : decode c_Md_takenNext 47 = .ok (.invokevirtual 172, 3) := by decide +kernel
theorem d_Md_takenNext_50 : decode c_Md_takenNext 50 = .ok (.ifCond .ne 68, 3) := by decide +kernel
theorem d_Md_takenNext_53 : decode c_Md_takenNext 53 = .ok (.iconst 0, 1) := by decide +kernel
theorem d_Md_takenNext_54 : decode c_Md_takenNext 54 = .ok (.istore 6, 2) := by decide +kernel
theorem d_Md_takenNext_56 : decode c_Md_takenNext 56 = .ok (.iload 6, 2) := by decide +kernel
theorem d_Md_takenNext_58 : decode c_Md_takenNext 58 = .ok (.bipush 12, 2) := by decide +kernel
theorem d_Md_takenNext_60 : decode c_Md_takenNext 60 = .ok (.if_icmp .ge 56, 3) := by decide +kernel
theorem d_Md_takenNext_63 : decode c_Md_takenNext 63 = .ok (.iload_n 2, 1) := by decide +kernel
theorem d_Md_takenNext_64 : decode c_Md_takenNext 64 = .ok (.ifCond .lt 17, 3) := by decide +kernel
theorem d_Md_takenNext_67 : decode c_Md_takenNext 67 = .ok (.iload 5, 2) := by decide +kernel
theorem d_Md_takenNext_69 : decode c_Md_takenNext 69 = .ok (.ifCond .eq 16, 3) := by decide +kernel
theorem d_Md_takenNext_72 : decode c_Md_takenNext 72 = .ok (.iload 6, 2) := by decide +kernel
theorem d_Md_takenNext_74 : decode c_Md_takenNext 74 = .ok (.invokestatic 161, 3) := by decide +kernel
theorem d_Md_takenNext_77 : decode c_Md_takenNext 77 = .ok (.iload_n 2, 1) := by decide +kernel
theorem d_Md_takenNext_78 : decode c_Md_takenNext 78 = .ok (.if_icmp .ge 7, 3) := by decide +kernel
theorem d_Md_takenNext_81 : decode c_Md_takenNext 81 = .ok (.iconst 1, 1) := by decide +kernel
theorem d_Md_takenNext_82 : decode c_Md_takenNext 82 = .ok (.goto 4, 3) := by decide +kernel
theorem d_Md_takenNext_85 : decode c_Md_takenNext 85 = .ok (.iconst 0, 1) := by decide +kernel
theorem d_Md_takenNext_86 : decode c_Md_takenNext 86 = .ok (.istore 7, 2) := by decide +kernel
theorem d_Md_takenNext_88 : decode c_Md_takenNext 88 = .ok (.iload 4, 2) := by decide +kernel
theorem d_Md_takenNext_90 : decode c_Md_takenNext 90 = .ok (.iload 6, 2) := by decide +kernel
theorem d_Md_takenNext_92 : decode c_Md_takenNext 92 = .ok (.invokestatic 161, 3) := by decide +kernel
theorem d_Md_takenNext_95 : decode c_Md_takenNext 95 = .ok (.iand, 1) := by decide +kernel
theorem d_Md_takenNext_96 : decode c_Md_takenNext 96 = .ok (.ifCond .eq 14, 3) := by decide +kernel
theorem d_Md_takenNext_99 : decode c_Md_takenNext 99 = .ok (.iload 7, 2) := by decide +kernel
theorem d_Md_takenNext_101 : decode c_Md_takenNext 101 = .ok (.ifCond .eq 9, 3) := by decide +kernel
theorem d_Md_takenNext_104 : decode c_Md_takenNext 104 = .ok (.iload 6, 2) := by decide +kernel
theorem d_Md_takenNext_106 : decode c_Md_takenNext 106 = .ok (.invokestatic 161, 3) := by decide +kernel
theorem d_Md_takenNext_109 : decode c_Md_takenNext 109 = .ok (.ireturn, 1) := by decide +kernel
theorem d_Md_takenNext_110 : decode c_Md_takenNext 110 = .ok (.iinc 6 1, 3) := by decide +kernel
theorem d_Md_takenNext_113 : decode c_Md_takenNext 113 = .ok (.goto (-57), 3) := by decide +kernel
theorem d_Md_takenNext_116 : decode c_Md_takenNext 116 = .ok (.iconst (-1), 1) := by decide +kernel
theorem d_Md_takenNext_117 : decode c_Md_takenNext 117 = .ok (.ireturn, 1) := by decide +kernel
theorem d_Md_takenNext_118 : decode c_Md_takenNext 118 = .ok (.iload_n 2, 1) := by decide +kernel
theorem d_Md_takenNext_119 : decode c_Md_takenNext 119 = .ok (.ifCond .ge 15, 3) := by decide +kernel
theorem d_Md_takenNext_122 : decode c_Md_takenNext 122 = .ok (.aload_n 0, 1) := by decide +kernel
theorem d_Md_takenNext_123 : decode c_Md_takenNext 123 = .ok (.getfield 23, 3) := by decide +kernel
theorem d_Md_takenNext_126 : decode c_Md_takenNext 126 = .ok (.iload_n 3, 1) := by decide +kernel
theorem d_Md_takenNext_127 : decode c_Md_takenNext 127 = .ok (.iaload, 1) := by decide +kernel
theorem d_Md_takenNext_128 : decode c_Md_takenNext 128 = .ok (.iconst 3, 1) := by decide +kernel
theorem d_Md_takenNext_129 : decode c_Md_takenNext 129 = .ok (.if_icmp .ne 5, 3) := by decide +kernel
theorem d_Md_takenNext_132 : decode c_Md_takenNext 132 = .ok (.iconst 0, 1) := by decide +kernel
theorem d_Md_takenNext_133 : decode c_Md_takenNext 133 = .ok (.ireturn, 1) := by decide +kernel
theorem d_Md_takenNext_134 : decode c_Md_takenNext 134 = .ok (.iload_n 2, 1) := by decide +kernel
theorem d_Md_takenNext_135 : decode c_Md_takenNext 135 = .ok (.ifCond .ge 7, 3) := by decide +kernel
theorem d_Md_takenNext_138 : decode c_Md_takenNext 138 = .ok (.iconst 1, 1) := by decide +kernel
theorem d_Md_takenNext_139 : decode c_Md_takenNext 139 = .ok (.goto 7, 3) := by decide +kernel
theorem d_Md_takenNext_142 : decode c_Md_takenNext 142 = .ok (.iload_n 2, 1) := by decide +kernel
theorem d_Md_takenNext_143 : decode c_Md_takenNext 143 = .ok (.invokestatic 175, 3) := by decide +kernel
theorem d_Md_takenNext_146 : decode c_Md_takenNext 146 = .ok (.istore 6, 2) := by decide +kernel
theorem d_Md_takenNext_148 : decode c_Md_takenNext 148 = .ok (.iload 5, 2) := by decide +kernel
theorem d_Md_takenNext_150 : decode c_Md_takenNext 150 = .ok (.ifCond .ne 39, 3) := by decide +kernel
theorem d_Md_takenNext_153 : decode c_Md_takenNext 153 = .ok (.iload_n 2, 1) := by decide +kernel
theorem d_Md_takenNext_154 : decode c_Md_takenNext 154 = .ok (.ifCond .ge 7, 3) := by decide +kernel
theorem d_Md_takenNext_157 : decode c_Md_takenNext 157 = .ok (.iconst 1, 1) := by decide +kernel
theorem d_Md_takenNext_158 : decode c_Md_takenNext 158 = .ok (.goto 7, 3) := by decide +kernel
theorem d_Md_takenNext_161 : decode c_Md_takenNext 161 = .ok (.iload 6, 2) := by decide +kernel
theorem d_Md_takenNext_163 : decode c_Md_takenNext 163 = .ok (.iconst 1, 1) := by decide +kernel
theorem d_Md_takenNext_164 : decode c_Md_takenNext 164 = .ok (.iadd, 1) := by decide +kernel
theorem d_Md_takenNext_165 : decode c_Md_takenNext 165 = .ok (.istore 7, 2) := by decide +kernel
theorem d_Md_takenNext_167 : decode c_Md_takenNext 167 = .ok (.iload 7, 2) := by decide +kernel
theorem d_Md_takenNext_169 : decode c_Md_takenNext 169 = .ok (.iload 4, 2) := by decide +kernel
theorem d_Md_takenNext_171 : decode c_Md_takenNext 171 = .ok (.invokestatic 175, 3) := by decide +kernel
theorem d_Md_takenNext_174 : decode c_Md_takenNext 174 = .ok (.if_icmp .le 7, 3) := by decide +kernel
theorem d_Md_takenNext_177 : decode c_Md_takenNext 177 = .ok (.iconst (-1), 1) := by decide +kernel
theorem d_Md_takenNext_178 : decode c_Md_takenNext 178 = .ok (.goto 10, 3) := by decide +kernel
theorem d_Md_takenNext_181 : decode c_Md_takenNext 181 = .ok (.iload 4, 2) := by decide +kernel
theorem d_Md_takenNext_183 : decode c_Md_takenNext 183 = .ok (.iload 7, 2) := by decide +kernel
theorem d_Md_takenNext_185 : decode c_Md_takenNext 185 = .ok (.invokestatic 178, 3) := by decide +kernel
theorem d_Md_takenNext_188 : decode c_Md_takenNext 188 = .ok (.ireturn, 1) := by decide +kernel
theorem d_Md_takenNext_189 : decode c_Md_takenNext 189 = .ok (.iload_n 2, 1) := by decide +kernel
theorem d_Md_takenNext_190 : decode c_Md_takenNext 190 = .ok (.ifCond .ge 25, 3) := by decide +kernel
theorem d_Md_takenNext_193 : decode c_Md_takenNext 193 = .ok (.iload 6, 2) := by decide +kernel
theorem d_Md_takenNext_195 : decode c_Md_takenNext 195 = .ok (.iload 4, 2) := by decide +kernel
theorem d_Md_takenNext_197 : decode c_Md_takenNext 197 = .ok (.invokestatic 175, 3) := by decide +kernel
theorem d_Md_takenNext_200 : decode c_Md_takenNext 200 = .ok (.if_icmp .le 7, 3) := by decide +kernel
theorem d_Md_takenNext_203 : decode c_Md_takenNext 203 = .ok (.iconst (-1), 1) := by decide +kernel
theorem d_Md_takenNext_204 : decode c_Md_takenNext 204 = .ok (.goto 10, 3) := by decide +kernel
theorem d_Md_takenNext_207 : decode c_Md_takenNext 207 = .ok (.iload 4, 2) := by decide +kernel
theorem d_Md_takenNext_209 : decode c_Md_takenNext 209 = .ok (.iload 6, 2) := by decide +kernel
theorem d_Md_takenNext_211 : decode c_Md_takenNext 211 = .ok (.invokestatic 178, 3) := by decide +kernel
theorem d_Md_takenNext_214 : decode c_Md_takenNext 214 = .ok (.ireturn, 1) := by decide +kernel
theorem d_Md_takenNext_215 : decode c_Md_takenNext 215 = .ok (.iload_n 2, 1) := by decide +kernel
theorem d_Md_takenNext_216 : decode c_Md_takenNext 216 = .ok (.iconst 1, 1) := by decide +kernel
theorem d_Md_takenNext_217 : decode c_Md_takenNext 217 = .ok (.isub, 1) := by decide +kernel
theorem d_Md_takenNext_218 : decode c_Md_takenNext 218 = .ok (.istore 7, 2) := by decide +kernel
theorem d_Md_takenNext_220 : decode c_Md_takenNext 220 = .ok (.iload 7, 2) := by decide +kernel
theorem d_Md_takenNext_222 : decode c_Md_takenNext 222 = .ok (.ifCond .lt 32, 3) := by decide +kernel
theorem d_Md_takenNext_225 : decode c_Md_takenNext 225 = .ok (.iload 7, 2) := by decide +kernel
theorem d_Md_takenNext_227 : decode c_Md_takenNext 227 = .ok (.iload 4, 2) := by decide +kernel
theorem d_Md_takenNext_229 : decode c_Md_takenNext 229 = .ok (.iconst (-1), 1) := by decide +kernel
theorem d_Md_takenNext_230 : decode c_Md_takenNext 230 = .ok (.ixor, 1) := by decide +kernel
theorem d_Md_takenNext_231 : decode c_Md_takenNext 231 = .ok (.iand, 1) := by decide +kernel
theorem d_Md_takenNext_232 : decode c_Md_takenNext 232 = .ok (.ifCond .ne 16, 3) := by decide +kernel
theorem d_Md_takenNext_235 : decode c_Md_takenNext 235 = .ok (.iload 7, 2) := by decide +kernel
theorem d_Md_takenNext_237 : decode c_Md_takenNext 237 = .ok (.invokestatic 175, 3) := by decide +kernel
theorem d_Md_takenNext_240 : decode c_Md_takenNext 240 = .ok (.iload 6, 2) := by decide +kernel
theorem d_Md_takenNext_242 : decode c_Md_takenNext 242 = .ok (.if_icmp .ne 6, 3) := by decide +kernel
theorem d_Md_takenNext_245 : decode c_Md_takenNext 245 = .ok (.iload 7, 2) := by decide +kernel
theorem d_Md_takenNext_247 : decode c_Md_takenNext 247 = .ok (.ireturn, 1) := by decide +kernel
theorem d_Md_takenNext_248 : decode c_Md_takenNext 248 = .ok (.iinc 7 (-1), 3) := by decide +kernel
theorem d_Md_takenNext_251 : decode c_Md_takenNext 251 = .ok (.goto (-31), 3) := by decide +kernel
theorem d_Md_takenNext_254 : decode c_Md_takenNext 254 = .ok (.iload 6, 2) := by decide +kernel
theorem d_Md_takenNext_256 : decode c_Md_takenNext 256 = .ok (.iconst 1, 1) := by decide +kernel
theorem d_Md_takenNext_257 : decode c_Md_takenNext 257 = .ok (.iadd, 1) := by decide +kernel
theorem d_Md_takenNext_258 : decode c_Md_takenNext 258 = .ok (.iload 4, 2) := by decide +kernel
theorem d_Md_takenNext_260 : decode c_Md_takenNext 260 = .ok (.invokestatic 175, 3) := by decide +kernel
theorem d_Md_takenNext_263 : decode c_Md_takenNext 263 = .ok (.if_icmp .le 7, 3) := by decide +kernel
theorem d_Md_takenNext_266 : decode c_Md_takenNext 266 = .ok (.iconst (-1), 1) := by decide +kernel
theorem d_Md_takenNext_267 : decode c_Md_takenNext 267 = .ok (.goto 12, 3) := by decide +kernel
theorem d_Md_takenNext_270 : decode c_Md_takenNext 270 = .ok (.iload 4, 2) := by decide +kernel
theorem d_Md_takenNext_272 : decode c_Md_takenNext 272 = .ok (.iload 6, 2) := by decide +kernel
theorem d_Md_takenNext_274 : decode c_Md_takenNext 274 = .ok (.iconst 1, 1) := by decide +kernel
theorem d_Md_takenNext_275 : decode c_Md_takenNext 275 = .ok (.iadd, 1) := by decide +kernel
theorem d_Md_takenNext_276 : decode c_Md_takenNext 276 = .ok (.invokestatic 178, 3) := by decide +kernel
theorem d_Md_takenNext_279 : decode c_Md_takenNext 279 = .ok (.ireturn, 1) := by decide +kernel
theorem d_Md_firstOf_0 : decode c_Md_firstOf 0 = .ok (.iconst 0, 1) := by decide +kernel
theorem d_Md_firstOf_1 : decode c_Md_firstOf 1 = .ok (.istore_n 2, 1) := by decide +kernel
theorem d_Md_firstOf_2 : decode c_Md_firstOf 2 = .ok (.iconst 0, 1) := by decide +kernel
theorem d_Md_firstOf_3 : decode c_Md_firstOf 3 = .ok (.istore_n 3, 1) := by decide +kernel
theorem d_Md_firstOf_4 : decode c_Md_firstOf 4 = .ok (.iconst 0, 1) := by decide +kernel
theorem d_Md_firstOf_5 : decode c_Md_firstOf 5 = .ok (.istore 4, 2) := by decide +kernel
theorem d_Md_firstOf_7 : decode c_Md_firstOf 7 = .ok (.iload 4, 2) := by decide +kernel
theorem d_Md_firstOf_9 : decode c_Md_firstOf 9 = .ok (.bipush 12, 2) := by decide +kernel
theorem d_Md_firstOf_11 : decode c_Md_firstOf 11 = .ok (.if_icmp .ge 35, 3) := by decide +kernel
theorem d_Md_firstOf_14 : decode c_Md_firstOf 14 = .ok (.iload_n 3, 1) := by decide +kernel
theorem d_Md_firstOf_15 : decode c_Md_firstOf 15 = .ok (.iload_n 1, 1) := by decide +kernel
theorem d_Md_firstOf_16 : decode c_Md_firstOf 16 = .ok (.if_icmp .ge 30, 3) := by decide +kernel
theorem d_Md_firstOf_19 : decode c_Md_firstOf 19 = .ok (.iload_n 0, 1) := by decide +kernel
theorem d_Md_firstOf_20 : decode c_Md_firstOf 20 = .ok (.iload 4, 2) := by decide +kernel
theorem d_Md_firstOf_22 : decode c_Md_firstOf 22 = .ok (.invokestatic 161, 3) := by decide +kernel
theorem d_Md_firstOf_25 : decode c_Md_firstOf 25 = .ok (.iand, 1) := by decide +kernel
theorem d_Md_firstOf_26 : decode c_Md_firstOf 26 = .ok (.ifCond .eq 14, 3) := by decide +kernel
theorem d_Md_firstOf_29 : decode c_Md_firstOf 29 = .ok (.iload_n 2, 1) := by decide +kernel
theorem d_Md_firstOf_30 : decode c_Md_firstOf 30 = .ok (.iload 4, 2) := by decide +kernel
theorem d_Md_firstOf_32 : decode c_Md_firstOf 32 = .ok (.invokestatic 161, 3) := by decide +kernel
theorem d_Md_firstOf_35 : decode c_Md_firstOf 35 = .ok (.ior, 1) := by decide +kernel
theorem d_Md_firstOf_36 : decode c_Md_firstOf 36 = .ok (.istore_n 2, 1) := by decide +kernel
theorem d_Md_firstOf_37 : decode c_Md_firstOf 37 = .ok (.iinc 3 1, 3) := by decide +kernel
theorem d_Md_firstOf_40 : decode c_Md_firstOf 40 = .ok (.iinc 4 1, 3) := by decide +kernel
theorem d_Md_firstOf_43 : decode c_Md_firstOf 43 = .ok (.goto (-36), 3) := by decide +kernel
theorem d_Md_firstOf_46 : decode c_Md_firstOf 46 = .ok (.iload_n 2, 1) := by decide +kernel
theorem d_Md_firstOf_47 : decode c_Md_firstOf 47 = .ok (.ireturn, 1) := by decide +kernel
theorem d_Md_keepMatch_0 : decode c_Md_keepMatch 0 = .ok (.aload_n 0, 1) := by decide +kernel
theorem d_Md_keepMatch_1 : decode c_Md_keepMatch 1 = .ok (.dup, 1) := by decide +kernel
theorem d_Md_keepMatch_2 : decode c_Md_keepMatch 2 = .ok (.getfield 93, 3) := by decide +kernel
theorem d_Md_keepMatch_5 : decode c_Md_keepMatch 5 = .ok (.iconst 1, 1) := by decide +kernel
theorem d_Md_keepMatch_6 : decode c_Md_keepMatch 6 = .ok (.iadd, 1) := by decide +kernel
theorem d_Md_keepMatch_7 : decode c_Md_keepMatch 7 = .ok (.putfield 93, 3) := by decide +kernel
theorem d_Md_keepMatch_10 : decode c_Md_keepMatch 10 = .ok (.aload_n 0, 1) := by decide +kernel
theorem d_Md_keepMatch_11 : decode c_Md_keepMatch 11 = .ok (.getfield 66, 3) := by decide +kernel
theorem d_Md_keepMatch_14 : decode c_Md_keepMatch 14 = .ok (.bipush 20, 2) := by decide +kernel
theorem d_Md_keepMatch_16 : decode c_Md_keepMatch 16 = .ok (.if_icmp .ne 4, 3) := by decide +kernel
theorem d_Md_keepMatch_19 : decode c_Md_keepMatch 19 = .ok (.return_, 1) := by decide +kernel
theorem d_Md_keepMatch_20 : decode c_Md_keepMatch 20 = .ok (.iconst 0, 1) := by decide +kernel
theorem d_Md_keepMatch_21 : decode c_Md_keepMatch 21 = .ok (.istore_n 1, 1) := by decide +kernel
theorem d_Md_keepMatch_22 : decode c_Md_keepMatch 22 = .ok (.iload_n 1, 1) := by decide +kernel
theorem d_Md_keepMatch_23 : decode c_Md_keepMatch 23 = .ok (.bipush 8, 2) := by decide +kernel
theorem d_Md_keepMatch_25 : decode c_Md_keepMatch 25 = .ok (.if_icmp .ge 77, 3) := by decide +kernel
theorem d_Md_keepMatch_28 : decode c_Md_keepMatch 28 = .ok (.aload_n 0, 1) := by decide +kernel
theorem d_Md_keepMatch_29 : decode c_Md_keepMatch 29 = .ok (.getfield 69, 3) := by decide +kernel
theorem d_Md_keepMatch_32 : decode c_Md_keepMatch 32 = .ok (.bipush 8, 2) := by decide +kernel
theorem d_Md_keepMatch_34 : decode c_Md_keepMatch 34 = .ok (.aload_n 0, 1) := by decide +kernel
theorem d_Md_keepMatch_35 : decode c_Md_keepMatch 35 = .ok (.getfield 66, 3) := by decide +kernel
theorem d_Md_keepMatch_38 : decode c_Md_keepMatch 38 = .ok (.imul, 1) := by decide +kernel
theorem d_Md_keepMatch_39 : decode c_Md_keepMatch 39 = .ok (.iload_n 1, 1) := by decide +kernel
theorem d_Md_keepMatch_40 : decode c_Md_keepMatch 40 = .ok (.iadd, 1) := by decide +kernel
theorem d_Md_keepMatch_41 : decode c_Md_keepMatch 41 = .ok (.aload_n 0, 1) := by decide +kernel
theorem d_Md_keepMatch_42 : decode c_Md_keepMatch 42 = .ok (.getfield 75, 3) := by decide +kernel
theorem d_Md_keepMatch_45 : decode c_Md_keepMatch 45 = .ok (.iload_n 1, 1) := by decide +kernel
theorem d_Md_keepMatch_46 : decode c_Md_keepMatch 46 = .ok (.iaload, 1) := by decide +kernel
theorem d_Md_keepMatch_47 : decode c_Md_keepMatch 47 = .ok (.iastore, 1) := by decide +kernel
theorem d_Md_keepMatch_48 : decode c_Md_keepMatch 48 = .ok (.iconst 0, 1) := by decide +kernel
theorem d_Md_keepMatch_49 : decode c_Md_keepMatch 49 = .ok (.istore_n 2, 1) := by decide +kernel
theorem d_Md_keepMatch_50 : decode c_Md_keepMatch 50 = .ok (.iload_n 2, 1) := by decide +kernel
theorem d_Md_keepMatch_51 : decode c_Md_keepMatch 51 = .ok (.aload_n 0, 1) := by decide +kernel
theorem d_Md_keepMatch_52 : decode c_Md_keepMatch 52 = .ok (.getfield 75, 3) := by decide +kernel
theorem d_Md_keepMatch_55 : decode c_Md_keepMatch 55 = .ok (.iload_n 1, 1) := by decide +kernel
theorem d_Md_keepMatch_56 : decode c_Md_keepMatch 56 = .ok (.iaload, 1) := by decide +kernel
theorem d_Md_keepMatch_57 : decode c_Md_keepMatch 57 = .ok (.if_icmp .ge 39, 3) := by decide +kernel
theorem d_Md_keepMatch_60 : decode c_Md_keepMatch 60 = .ok (.aload_n 0, 1) := by decide +kernel
theorem d_Md_keepMatch_61 : decode c_Md_keepMatch 61 = .ok (.getfield 72, 3) := by decide +kernel
theorem d_Md_keepMatch_64 : decode c_Md_keepMatch 64 = .ok (.bipush 96, 2) := by decide +kernel
theorem d_Md_keepMatch_66 : decode c_Md_keepMatch 66 = .ok (.aload_n 0, 1) := by decide +kernel
theorem d_Md_keepMatch_67 : decode c_Md_keepMatch 67 = .ok (.getfield 66, 3) := by decide +kernel
theorem d_Md_keepMatch_70 : decode c_Md_keepMatch 70 = .ok (.imul, 1) := by decide +kernel
theorem d_Md_keepMatch_71 : decode c_Md_keepMatch 71 = .ok (.bipush 12, 2) := by decide +kernel
theorem d_Md_keepMatch_73 : decode c_Md_keepMatch 73 = .ok (.iload_n 1, 1) := by decide +kernel
theorem d_Md_keepMatch_74 : decode c_Md_keepMatch 74 = .ok (.imul, 1) := by decide +kernel
theorem d_Md_keepMatch_75 : decode c_Md_keepMatch 75 = .ok (.iadd, 1) := by decide +kernel
theorem d_Md_keepMatch_76 : decode c_Md_keepMatch 76 = .ok (.iload_n 2, 1) := by decide +kernel
theorem d_Md_keepMatch_77 : decode c_Md_keepMatch 77 = .ok (.iadd, 1) := by decide +kernel
theorem d_Md_keepMatch_78 : decode c_Md_keepMatch 78 = .ok (.aload_n 0, 1) := by decide +kernel
theorem d_Md_keepMatch_79 : decode c_Md_keepMatch 79 = .ok (.getfield 78, 3) := by decide +kernel
theorem d_Md_keepMatch_82 : decode c_Md_keepMatch 82 = .ok (.bipush 12, 2) := by decide +kernel
theorem d_Md_keepMatch_84 : decode c_Md_keepMatch 84 = .ok (.iload_n 1, 1) := by decide +kernel
theorem d_Md_keepMatch_85 : decode c_Md_keepMatch 85 = .ok (.imul, 1) := by decide +kernel
theorem d_Md_keepMatch_86 : decode c_Md_keepMatch 86 = .ok (.iload_n 2, 1) := by decide +kernel
theorem d_Md_keepMatch_87 : decode c_Md_keepMatch 87 = .ok (.iadd, 1) := by decide +kernel
theorem d_Md_keepMatch_88 : decode c_Md_keepMatch 88 = .ok (.iaload, 1) := by decide +kernel
theorem d_Md_keepMatch_89 : decode c_Md_keepMatch 89 = .ok (.iastore, 1) := by decide +kernel
theorem d_Md_keepMatch_90 : decode c_Md_keepMatch 90 = .ok (.iinc 2 1, 3) := by decide +kernel
theorem d_Md_keepMatch_93 : decode c_Md_keepMatch 93 = .ok (.goto (-43), 3) := by decide +kernel
theorem d_Md_keepMatch_96 : decode c_Md_keepMatch 96 = .ok (.iinc 1 1, 3) := by decide +kernel
theorem d_Md_keepMatch_99 : decode c_Md_keepMatch 99 = .ok (.goto (-77), 3) := by decide +kernel
theorem d_Md_keepMatch_102 : decode c_Md_keepMatch 102 = .ok (.aload_n 0, 1) := by decide +kernel
theorem d_Md_keepMatch_103 : decode c_Md_keepMatch 103 = .ok (.dup, 1) := by decide +kernel
theorem d_Md_keepMatch_104 : decode c_Md_keepMatch 104 = .ok (.getfield 66, 3) := by decide +kernel
theorem d_Md_keepMatch_107 : decode c_Md_keepMatch 107 = .ok (.iconst 1, 1) := by decide +kernel
theorem d_Md_keepMatch_108 : decode c_Md_keepMatch 108 = .ok (.iadd, 1) := by decide +kernel
theorem d_Md_keepMatch_109 : decode c_Md_keepMatch 109 = .ok (.putfield 66, 3) := by decide +kernel
theorem d_Md_keepMatch_112 : decode c_Md_keepMatch 112 = .ok (.return_, 1) := by decide +kernel
theorem d_Md_tries_0 : decode c_Md_tries 0 = .ok (.aload_n 0, 1) := by decide +kernel
theorem d_Md_tries_1 : decode c_Md_tries 1 = .ok (.getfield 87, 3) := by decide +kernel
theorem d_Md_tries_4 : decode c_Md_tries 4 = .ok (.aload_n 0, 1) := by decide +kernel
theorem d_Md_tries_5 : decode c_Md_tries 5 = .ok (.getfield 90, 3) := by decide +kernel
theorem d_Md_tries_8 : decode c_Md_tries 8 = .ok (.if_icmp .ne 10, 3) := by decide +kernel
theorem d_Md_tries_11 : decode c_Md_tries 11 = .ok (.aload_n 0, 1) := by decide +kernel
theorem d_Md_tries_12 : decode c_Md_tries 12 = .ok (.iconst 1, 1) := by decide +kernel
theorem d_Md_tries_13 : decode c_Md_tries 13 = .ok (.putfield 96, 3) := by decide +kernel
theorem d_Md_tries_16 : decode c_Md_tries 16 = .ok (.iconst 0, 1) := by decide +kernel
theorem d_Md_tries_17 : decode c_Md_tries 17 = .ok (.ireturn, 1) := by decide +kernel
theorem d_Md_tries_18 : decode c_Md_tries 18 = .ok (.aload_n 0, 1) := by decide +kernel
theorem d_Md_tries_19 : decode c_Md_tries 19 = .ok (.dup, 1) := by decide +kernel
theorem d_Md_tries_20 : decode c_Md_tries 20 = .ok (.getfield 87, 3) := by decide +kernel
theorem d_Md_tries_23 : decode c_Md_tries 23 = .ok (.iconst 1, 1) := by decide +kernel
theorem d_Md_tries_24 : decode c_Md_tries 24 = .ok (.iadd, 1) := by decide +kernel
theorem d_Md_tries_25 : decode c_Md_tries 25 = .ok (.putfield 87, 3) := by decide +kernel
theorem d_Md_tries_28 : decode c_Md_tries 28 = .ok (.iconst 1, 1) := by decide +kernel
theorem d_Md_tries_29 : decode c_Md_tries 29 = .ok (.ireturn, 1) := by decide +kernel
theorem d_Md_backTo_0 : decode c_Md_backTo 0 = .ok (.aload_n 0, 1) := by decide +kernel
theorem d_Md_backTo_1 : decode c_Md_backTo 1 = .ok (.getfield 81, 3) := by decide +kernel
theorem d_Md_backTo_4 : decode c_Md_backTo 4 = .ok (.iload_n 1, 1) := by decide +kernel
theorem d_Md_backTo_5 : decode c_Md_backTo 5 = .ok (.if_icmp .le 31, 3) := by decide +kernel
theorem d_Md_backTo_8 : decode c_Md_backTo 8 = .ok (.aload_n 0, 1) := by decide +kernel
theorem d_Md_backTo_9 : decode c_Md_backTo 9 = .ok (.dup, 1) := by decide +kernel
theorem d_Md_backTo_10 : decode c_Md_backTo 10 = .ok (.getfield 81, 3) := by decide +kernel
theorem d_Md_backTo_13 : decode c_Md_backTo 13 = .ok (.iconst 1, 1) := by decide +kernel
theorem d_Md_backTo_14 : decode c_Md_backTo 14 = .ok (.isub, 1) := by decide +kernel
theorem d_Md_backTo_15 : decode c_Md_backTo 15 = .ok (.putfield 81, 3) := by decide +kernel
theorem d_Md_backTo_18 : decode c_Md_backTo 18 = .ok (.aload_n 0, 1) := by decide +kernel
theorem d_Md_backTo_19 : decode c_Md_backTo 19 = .ok (.getfield 75, 3) := by decide +kernel
theorem d_Md_backTo_22 : decode c_Md_backTo 22 = .ok (.aload_n 0, 1) := by decide +kernel
theorem d_Md_backTo_23 : decode c_Md_backTo 23 = .ok (.getfield 84, 3) := by decide +kernel
theorem d_Md_backTo_26 : decode c_Md_backTo 26 = .ok (.aload_n 0, 1) := by decide +kernel
theorem d_Md_backTo_27 : decode c_Md_backTo 27 = .ok (.getfield 81, 3) := by decide +kernel
theorem d_Md_backTo_30 : decode c_Md_backTo 30 = .ok (.iaload, 1) := by decide +kernel
theorem d_Md_backTo_31 : decode c_Md_backTo 31 = .ok (.iconst (-1), 1) := by decide +kernel
theorem d_Md_backTo_32 : decode c_Md_backTo 32 = .ok (.iastore, 1) := by decide +kernel
theorem d_Md_backTo_33 : decode c_Md_backTo 33 = .ok (.goto (-33), 3) := by decide +kernel
theorem d_Md_backTo_36 : decode c_Md_backTo 36 = .ok (.aload_n 0, 1) := by decide +kernel
theorem d_Md_backTo_37 : decode c_Md_backTo 37 = .ok (.iload_n 2, 1) := by decide +kernel
theorem d_Md_backTo_38 : decode c_Md_backTo 38 = .ok (.putfield 100, 3) := by decide +kernel
theorem d_Md_backTo_41 : decode c_Md_backTo 41 = .ok (.return_, 1) := by decide +kernel
theorem d_Md_otherwise_0 : decode c_Md_otherwise 0 = .ok (.aload_n 0, 1) := by decide +kernel
theorem d_Md_otherwise_1 : decode c_Md_otherwise 1 = .ok (.getfield 118, 3) := by decide +kernel
theorem d_Md_otherwise_4 : decode c_Md_otherwise 4 = .ok (.ifCond .le 219, 3) := by decide +kernel
theorem d_Md_otherwise_7 : decode c_Md_otherwise 7 = .ok (.aload_n 0, 1) := by decide +kernel
theorem d_Md_otherwise_8 : decode c_Md_otherwise 8 = .ok (.getfield 118, 3) := by decide +kernel
theorem d_Md_otherwise_11 : decode c_Md_otherwise 11 = .ok (.iconst 1, 1) := by decide +kernel
theorem d_Md_otherwise_12 : decode c_Md_otherwise 12 = .ok (.isub, 1) := by decide +kernel
theorem d_Md_otherwise_13 : decode c_Md_otherwise 13 = .ok (.istore_n 1, 1) := by decide +kernel
theorem d_Md_otherwise_14 : decode c_Md_otherwise 14 = .ok (.aload_n 0, 1) := by decide +kernel
theorem d_Md_otherwise_15 : decode c_Md_otherwise 15 = .ok (.aload_n 0, 1) := by decide +kernel
theorem d_Md_otherwise_16 : decode c_Md_otherwise 16 = .ok (.getfield 127, 3) := by decide +kernel
theorem d_Md_otherwise_19 : decode c_Md_otherwise 19 = .ok (.iload_n 1, 1) := by decide +kernel
theorem d_Md_otherwise_20 : decode c_Md_otherwise 20 = .ok (.iaload, 1) := by decide +kernel
theorem d_Md_otherwise_21 : decode c_Md_otherwise 21 = .ok (.aload_n 0, 1) := by decide +kernel
theorem d_Md_otherwise_22 : decode c_Md_otherwise 22 = .ok (.getfield 130, 3) := by decide +kernel
theorem d_Md_otherwise_25 : decode c_Md_otherwise 25 = .ok (.iload_n 1, 1) := by decide +kernel
theorem d_Md_otherwise_26 : decode c_Md_otherwise 26 = .ok (.iaload, 1) := by decide +kernel
theorem d_Md_otherwise_27 : decode c_Md_otherwise 27 = .ok (.invokevirtual 181, 3) := by decide +kernel
theorem d_Md_otherwise_30 : decode c_Md_otherwise 30 = .ok (.aload_n 0, 1) := by decide +kernel
theorem d_Md_otherwise_31 : decode c_Md_otherwise 31 = .ok (.getfield 121, 3) := by decide +kernel
theorem d_Md_otherwise_34 : decode c_Md_otherwise 34 = .ok (.iload_n 1, 1) := by decide +kernel
theorem d_Md_otherwise_35 : decode c_Md_otherwise 35 = .ok (.iaload, 1) := by decide +kernel
theorem d_Md_otherwise_36 : decode c_Md_otherwise 36 = .ok (.istore_n 2, 1) := by decide +kernel
theorem d_Md_otherwise_37 : decode c_Md_otherwise 37 = .ok (.aload_n 0, 1) := by decide +kernel
theorem d_Md_otherwise_38 : decode c_Md_otherwise 38 = .ok (.iload_n 2, 1) := by decide +kernel
theorem d_Md_otherwise_39 : decode c_Md_otherwise 39 = .ok (.aload_n 0, 1) := by decide +kernel
theorem d_Md_otherwise_40 : decode c_Md_otherwise 40 = .ok (.getfield 124, 3) := by decide +kernel
theorem d_Md_otherwise_43 : decode c_Md_otherwise 43 = .ok (.iload_n 1, 1) := by decide +kernel
theorem d_Md_otherwise_44 : decode c_Md_otherwise 44 = .ok (.iaload, 1) := by decide +kernel
theorem d_Md_otherwise_45 : decode c_Md_otherwise 45 = .ok (.invokevirtual 185, 3) := by decide +kernel
theorem d_Md_otherwise_48 : decode c_Md_otherwise 48 = .ok (.istore_n 3, 1) := by decide +kernel
theorem d_Md_otherwise_49 : decode c_Md_otherwise 49 = .ok (.iload_n 3, 1) := by decide +kernel
theorem d_Md_otherwise_50 : decode c_Md_otherwise 50 = .ok (.ifCond .ge 16, 3) := by decide +kernel
theorem d_Md_otherwise_53 : decode c_Md_otherwise 53 = .ok (.aload_n 0, 1) := by decide +kernel
theorem d_Md_otherwise_54 : decode c_Md_otherwise 54 = .ok (.dup, 1) := by decide +kernel
theorem d_Md_otherwise_55 : decode c_Md_otherwise 55 = .ok (.getfield 118, 3) := by decide +kernel
theorem d_Md_otherwise_58 : decode c_Md_otherwise 58 = .ok (.iconst 1, 1) := by decide +kernel
theorem d_Md_otherwise_59 : decode c_Md_otherwise 59 = .ok (.isub, 1) := by decide +kernel
theorem d_Md_otherwise_60 : decode c_Md_otherwise 60 = .ok (.putfield 118, 3) := by decide +kernel
theorem d_Md_otherwise_63 : decode c_Md_otherwise 63 = .ok (.goto 157, 3) := by decide +kernel
theorem d_Md_otherwise_66 : decode c_Md_otherwise 66 = .ok (.aload_n 0, 1) := by decide +kernel
theorem d_Md_otherwise_67 : decode c_Md_otherwise 67 = .ok (.invokevirtual 188, 3) := by decide +kernel
theorem d_Md_otherwise_70 : decode c_Md_otherwise 70 = .ok (.ifCond .ne 6, 3) := by decide +kernel
theorem d_Md_otherwise_73 : decode c_Md_otherwise 73 = .ok (.bipush (-3), 2) := by decide +kernel
theorem d_Md_otherwise_75 : decode c_Md_otherwise 75 = .ok (.ireturn, 1) := by decide +kernel
theorem d_Md_otherwise_76 : decode c_Md_otherwise 76 = .ok (.aload_n 0, 1) := by decide +kernel
theorem d_Md_otherwise_77 : decode c_Md_otherwise 77 = .ok (.getfield 124, 3) := by decide +kernel
theorem d_Md_otherwise_80 : decode c_Md_otherwise 80 = .ok (.iload_n 1, 1) := by decide +kernel
theorem d_Md_otherwise_81 : decode c_Md_otherwise 81 = .ok (.iload_n 3, 1) := by decide +kernel
theorem d_Md_otherwise_82 : decode c_Md_otherwise 82 = .ok (.iastore, 1) := by decide +kernel
theorem d_Md_otherwise_83 : decode c_Md_otherwise 83 = .ok (.iconst 0, 1) := by decide +kernel
theorem d_Md_otherwise_84 : decode c_Md_otherwise 84 = .ok (.istore 4, 2) := by decide +kernel
theorem d_Md_otherwise_86 : decode c_Md_otherwise 86 = .ok (.iconst 0, 1) := by decide +kernel
theorem d_Md_otherwise_87 : decode c_Md_otherwise 87 = .ok (.istore 5, 2) := by decide +kernel
theorem d_Md_otherwise_89 : decode c_Md_otherwise 89 = .ok (.iload 5, 2) := by decide +kernel
theorem d_Md_otherwise_91 : decode c_Md_otherwise 91 = .ok (.bipush 12, 2) := by decide +kernel
theorem d_Md_otherwise_93 : decode c_Md_otherwise 93 = .ok (.if_icmp .ge 46, 3) := by decide +kernel
theorem d_Md_otherwise_96 : decode c_Md_otherwise 96 = .ok (.iload_n 3, 1) := by decide +kernel
theorem d_Md_otherwise_97 : decode c_Md_otherwise 97 = .ok (.iload 5, 2) := by decide +kernel
theorem d_Md_otherwise_99 : decode c_Md_otherwise 99 = .ok (.invokestatic 161, 3) := by decide +kernel
theorem d_Md_otherwise_102 : decode c_Md_otherwise 102 = .ok (.iand, 1) := by decide +kernel
theorem d_Md_otherwise_103 : decode c_Md_otherwise 103 = .ok (.ifCond .eq 30, 3) := by decide +kernel
theorem d_Md_otherwise_106 : decode c_Md_otherwise 106 = .ok (.aload_n 0, 1) := by decide +kernel
theorem d_Md_otherwise_107 : decode c_Md_otherwise 107 = .ok (.getfield 142, 3) := by decide +kernel
theorem d_Md_otherwise_110 : decode c_Md_otherwise 110 = .ok (.iload 4, 2) := by decide +kernel
theorem d_Md_otherwise_112 : decode c_Md_otherwise 112 = .ok (.aload_n 0, 1) := by decide +kernel
theorem d_Md_otherwise_113 : decode c_Md_otherwise 113 = .ok (.getfield 29, 3) := by decide +kernel
theorem d_Md_otherwise_116 : decode c_Md_otherwise 116 = .ok (.bipush 12, 2) := by decide +kernel
theorem d_Md_otherwise_118 : decode c_Md_otherwise 118 = .ok (.aload_n 0, 1) := by decide +kernel
theorem d_Md_otherwise_119 : decode c_Md_otherwise 119 = .ok (.getfield 106, 3) := by decide +kernel
theorem d_Md_otherwise_122 : decode c_Md_otherwise 122 = .ok (.iload_n 2, 1) := by decide +kernel
theorem d_Md_otherwise_123 : decode c_Md_otherwise 123 = .ok (.iaload, 1) := by decide +kernel
theorem d_Md_otherwise_124 : decode c_Md_otherwise 124 = .ok (.imul, 1) := by decide +kernel
theorem d_Md_otherwise_125 : decode c_Md_otherwise 125 = .ok (.iload 5, 2) := by decide +kernel
theorem d_Md_otherwise_127 : decode c_Md_otherwise 127 = .ok (.iadd, 1) := by decide +kernel
theorem d_Md_otherwise_128 : decode c_Md_otherwise 128 = .ok (.iaload, 1) := by decide +kernel
theorem d_Md_otherwise_129 : decode c_Md_otherwise 129 = .ok (.iastore, 1) := by decide +kernel
theorem d_Md_otherwise_130 : decode c_Md_otherwise 130 = .ok (.iinc 4 1, 3) := by decide +kernel
theorem d_Md_otherwise_133 : decode c_Md_otherwise 133 = .ok (.iinc 5 1, 3) := by decide +kernel
theorem d_Md_otherwise_136 : decode c_Md_otherwise 136 = .ok (.goto (-47), 3) := by decide +kernel
theorem d_Md_otherwise_139 : decode c_Md_otherwise 139 = .ok (.aload_n 0, 1) := by decide +kernel
theorem d_Md_otherwise_140 : decode c_Md_otherwise 140 = .ok (.aload_n 0, 1) := by decide +kernel
theorem d_Md_otherwise_141 : decode c_Md_otherwise 141 = .ok (.getfield 103, 3) := by decide +kernel
theorem d_Md_otherwise_144 : decode c_Md_otherwise 144 = .ok (.iload_n 2, 1) := by decide +kernel
theorem d_Md_otherwise_145 : decode c_Md_otherwise 145 = .ok (.iaload, 1) := by decide +kernel
theorem d_Md_otherwise_146 : decode c_Md_otherwise 146 = .ok (.aload_n 0, 1) := by decide +kernel
theorem d_Md_otherwise_147 : decode c_Md_otherwise 147 = .ok (.getfield 106, 3) := by decide +kernel
theorem d_Md_otherwise_150 : decode c_Md_otherwise 150 = .ok (.iload_n 2, 1) := by decide +kernel
theorem d_Md_otherwise_151 : decode c_Md_otherwise 151 = .ok (.iaload, 1) := by decide +kernel
theorem d_Md_otherwise_152 : decode c_Md_otherwise 152 = .ok (.aload_n 0, 1) := by decide +kernel
theorem d_Md_otherwise_153 : decode c_Md_otherwise 153 = .ok (.getfield 109, 3) := by decide +kernel
theorem d_Md_otherwise_156 : decode c_Md_otherwise 156 = .ok (.iload_n 2, 1) := by decide +kernel
theorem d_Md_otherwise_157 : decode c_Md_otherwise 157 = .ok (.iaload, 1) := by decide +kernel
theorem d_Md_otherwise_158 : decode c_Md_otherwise 158 = .ok (.iconst 1, 1) := by decide +kernel
theorem d_Md_otherwise_159 : decode c_Md_otherwise 159 = .ok (.iadd, 1) := by decide +kernel
theorem d_Md_otherwise_160 : decode c_Md_otherwise 160 = .ok (.aload_n 0, 1) := by decide +kernel
theorem d_Md_otherwise_161 : decode c_Md_otherwise 161 = .ok (.getfield 112, 3) := by decide +kernel
theorem d_Md_otherwise_164 : decode c_Md_otherwise 164 = .ok (.iload_n 2, 1) := by decide +kernel
theorem d_Md_otherwise_165 : decode c_Md_otherwise 165 = .ok (.iaload, 1) := by decide +kernel
theorem d_Md_otherwise_166 : decode c_Md_otherwise 166 = .ok (.iload_n 3, 1) := by decide +kernel
theorem d_Md_otherwise_167 : decode c_Md_otherwise 167 = .ok (.ior, 1) := by decide +kernel
theorem d_Md_otherwise_168 : decode c_Md_otherwise 168 = .ok (.aload_n 0, 1) := by decide +kernel
theorem d_Md_otherwise_169 : decode c_Md_otherwise 169 = .ok (.getfield 115, 3) := by decide +kernel
theorem d_Md_otherwise_172 : decode c_Md_otherwise 172 = .ok (.iload_n 2, 1) := by decide +kernel
theorem d_Md_otherwise_173 : decode c_Md_otherwise 173 = .ok (.iaload, 1) := by decide +kernel
theorem d_Md_otherwise_174 : decode c_Md_otherwise 174 = .ok (.invokevirtual 157, 3) := by decide +kernel
theorem d_Md_otherwise_177 : decode c_Md_otherwise 177 = .ok (.istore 5, 2) := by decide +kernel
theorem d_Md_otherwise_179 : decode c_Md_otherwise 179 = .ok (.aload_n 0, 1) := by decide +kernel
theorem d_Md_otherwise_180 : decode c_Md_otherwise 180 = .ok (.aload_n 0, 1) := by decide +kernel
theorem d_Md_otherwise_181 : decode c_Md_otherwise 181 = .ok (.getfield 29, 3) := by decide +kernel
theorem d_Md_otherwise_184 : decode c_Md_otherwise 184 = .ok (.bipush 12, 2) := by decide +kernel
theorem d_Md_otherwise_186 : decode c_Md_otherwise 186 = .ok (.aload_n 0, 1) := by decide +kernel
theorem d_Md_otherwise_187 : decode c_Md_otherwise 187 = .ok (.getfield 103, 3) := by decide +kernel
theorem d_Md_otherwise_190 : decode c_Md_otherwise 190 = .ok (.iload_n 2, 1) := by decide +kernel
theorem d_Md_otherwise_191 : decode c_Md_otherwise 191 = .ok (.iaload, 1) := by decide +kernel
theorem d_Md_otherwise_192 : decode c_Md_otherwise 192 = .ok (.imul, 1) := by decide +kernel
theorem d_Md_otherwise_193 : decode c_Md_otherwise 193 = .ok (.aload_n 0, 1) := by decide +kernel
theorem d_Md_otherwise_194 : decode c_Md_otherwise 194 = .ok (.getfield 109, 3) := by decide +kernel
theorem d_Md_otherwise_197 : decode c_Md_otherwise 197 = .ok (.iload_n 2, 1) := by decide +kernel
theorem d_Md_otherwise_198 : decode c_Md_otherwise 198 = .ok (.iaload, 1) := by decide +kernel
theorem d_Md_otherwise_199 : decode c_Md_otherwise 199 = .ok (.iadd, 1) := by decide +kernel
theorem d_Md_otherwise_200 : decode c_Md_otherwise 200 = .ok (.iaload, 1) := by decide +kernel
theorem d_Md_otherwise_201 : decode c_Md_otherwise 201 = .ok (.iload 4, 2) := by decide +kernel
theorem d_Md_otherwise_203 : decode c_Md_otherwise 203 = .ok (.iload 5, 2) := by decide +kernel
theorem d_Md_otherwise_205 : decode c_Md_otherwise 205 = .ok (.invokevirtual 192, 3) := by decide +kernel
theorem d_Md_otherwise_208 : decode c_Md_otherwise 208 = .ok (.istore 6, 2) := by decide +kernel
theorem d_Md_otherwise_210 : decode c_Md_otherwise 210 = .ok (.iload 6, 2) := by decide +kernel
theorem d_Md_otherwise_212 : decode c_Md_otherwise 212 = .ok (.bipush (-2), 2) := by decide +kernel
theorem d_Md_otherwise_214 : decode c_Md_otherwise 214 = .ok (.if_icmp .eq 6, 3) := by decide +kernel
theorem d_Md_otherwise_217 : decode c_Md_otherwise 217 = .ok (.iload 6, 2) := by decide +kernel
theorem d_Md_otherwise_219 : decode c_Md_otherwise 219 = .ok (.ireturn, 1) := by decide +kernel
theorem d_Md_otherwise_220 : decode c_Md_otherwise 220 = .ok (.goto (-220), 3) := by decide +kernel
theorem d_Md_otherwise_223 : decode c_Md_otherwise 223 = .ok (.bipush (-3), 2) := by decide +kernel
theorem d_Md_otherwise_225 : decode c_Md_otherwise 225 = .ok (.ireturn, 1) := by decide +kernel
theorem d_Md_search_0 : decode c_Md_search 0 = .ok (.aload_n 0, 1) := by decide +kernel
theorem d_Md_search_1 : decode c_Md_search 1 = .ok (.iload_n 3, 1) := by decide +kernel
theorem d_Md_search_2 : decode c_Md_search 2 = .ok (.putfield 90, 3) := by decide +kernel
theorem d_Md_search_5 : decode c_Md_search 5 = .ok (.aload_n 0, 1) := by decide +kernel
theorem d_Md_search_6 : decode c_Md_search 6 = .ok (.iconst 0, 1) := by decide +kernel
theorem d_Md_search_7 : decode c_Md_search 7 = .ok (.putfield 87, 3) := by decide +kernel
theorem d_Md_search_10 : decode c_Md_search 10 = .ok (.aload_n 0, 1) := by decide +kernel
theorem d_Md_search_11 : decode c_Md_search 11 = .ok (.iconst 0, 1) := by decide +kernel
theorem d_Md_search_12 : decode c_Md_search 12 = .ok (.putfield 93, 3) := by decide +kernel
theorem d_Md_search_15 : decode c_Md_search 15 = .ok (.aload_n 0, 1) := by decide +kernel
theorem d_Md_search_16 : decode c_Md_search 16 = .ok (.iconst 0, 1) := by decide +kernel
theorem d_Md_search_17 : decode c_Md_search 17 = .ok (.putfield 66, 3) := by decide +kernel
theorem d_Md_search_20 : decode c_Md_search 20 = .ok (.aload_n 0, 1) := by decide +kernel
theorem d_Md_search_21 : decode c_Md_search 21 = .ok (.iconst 0, 1) := by decide +kernel
theorem d_Md_search_22 : decode c_Md_search 22 = .ok (.putfield 96, 3) := by decide +kernel
theorem d_Md_search_25 : decode c_Md_search 25 = .ok (.aload_n 0, 1) := by decide +kernel
theorem d_Md_search_26 : decode c_Md_search 26 = .ok (.iconst 0, 1) := by decide +kernel
theorem d_Md_search_27 : decode c_Md_search 27 = .ok (.putfield 81, 3) := by decide +kernel
theorem d_Md_search_30 : decode c_Md_search 30 = .ok (.aload_n 0, 1) := by decide +kernel
theorem d_Md_search_31 : decode c_Md_search 31 = .ok (.iconst 0, 1) := by decide +kernel
theorem d_Md_search_32 : decode c_Md_search 32 = .ok (.putfield 100, 3) := by decide +kernel
theorem d_Md_search_35 : decode c_Md_search 35 = .ok (.aload_n 0, 1) := by decide +kernel
theorem d_Md_search_36 : decode c_Md_search 36 = .ok (.iconst 0, 1) := by decide +kernel
theorem d_Md_search_37 : decode c_Md_search 37 = .ok (.putfield 118, 3) := by decide +kernel
theorem d_Md_search_40 : decode c_Md_search 40 = .ok (.iconst 0, 1) := by decide +kernel
theorem d_Md_search_41 : decode c_Md_search 41 = .ok (.istore 4, 2) := by decide +kernel
theorem d_Md_search_43 : decode c_Md_search 43 = .ok (.iload 4, 2) := by decide +kernel
theorem d_Md_search_45 : decode c_Md_search 45 = .ok (.bipush 8, 2) := by decide +kernel
theorem d_Md_search_47 : decode c_Md_search 47 = .ok (.if_icmp .ge 17, 3) := by decide +kernel
theorem d_Md_search_50 : decode c_Md_search 50 = .ok (.aload_n 0, 1) := by decide +kernel
theorem d_Md_search_51 : decode c_Md_search 51 = .ok (.getfield 75, 3) := by decide +kernel
theorem d_Md_search_54 : decode c_Md_search 54 = .ok (.iload 4, 2) := by decide +kernel
theorem d_Md_search_56 : decode c_Md_search 56 = .ok (.iconst (-1), 1) := by decide +kernel
theorem d_Md_search_57 : decode c_Md_search 57 = .ok (.iastore, 1) := by decide +kernel
theorem d_Md_search_58 : decode c_Md_search 58 = .ok (.iinc 4 1, 3) := by decide +kernel
theorem d_Md_search_61 : decode c_Md_search 61 = .ok (.goto (-18), 3) := by decide +kernel
theorem d_Md_search_64 : decode c_Md_search 64 = .ok (.aload_n 0, 1) := by decide +kernel
theorem d_Md_search_65 : decode c_Md_search 65 = .ok (.invokevirtual 188, 3) := by decide +kernel
theorem d_Md_search_68 : decode c_Md_search 68 = .ok (.ifCond .ne 4, 3) := by decide +kernel
theorem d_Md_search_71 : decode c_Md_search 71 = .ok (.return_, 1) := by decide +kernel
theorem d_Md_search_72 : decode c_Md_search 72 = .ok (.aload_n 0, 1) := by decide +kernel
theorem d_Md_search_73 : decode c_Md_search 73 = .ok (.getfield 142, 3) := by decide +kernel
theorem d_Md_search_76 : decode c_Md_search 76 = .ok (.iconst 0, 1) := by decide +kernel
theorem d_Md_search_77 : decode c_Md_search 77 = .ok (.iload_n 2, 1) := by decide +kernel
theorem d_Md_search_78 : decode c_Md_search 78 = .ok (.iastore, 1) := by decide +kernel
theorem d_Md_search_79 : decode c_Md_search 79 = .ok (.aload_n 0, 1) := by decide +kernel
theorem d_Md_search_80 : decode c_Md_search 80 = .ok (.iload_n 1, 1) := by decide +kernel
theorem d_Md_search_81 : decode c_Md_search 81 = .ok (.iconst 1, 1) := by decide +kernel
theorem d_Md_search_82 : decode c_Md_search 82 = .ok (.iconst (-1), 1) := by decide +kernel
theorem d_Md_search_83 : decode c_Md_search 83 = .ok (.invokevirtual 192, 3) := by decide +kernel
theorem d_Md_search_86 : decode c_Md_search 86 = .ok (.istore 4, 2) := by decide +kernel
theorem d_Md_search_88 : decode c_Md_search 88 = .ok (.iload 4, 2) := by decide +kernel
theorem d_Md_search_90 : decode c_Md_search 90 = .ok (.bipush (-2), 2) := by decide +kernel
theorem d_Md_search_92 : decode c_Md_search 92 = .ok (.if_icmp .ne 4, 3) := by decide +kernel
theorem d_Md_search_95 : decode c_Md_search 95 = .ok (.return_, 1) := by decide +kernel
theorem d_Md_search_96 : decode c_Md_search 96 = .ok (.iload 4, 2) := by decide +kernel
theorem d_Md_search_98 : decode c_Md_search 98 = .ok (.bipush (-3), 2) := by decide +kernel
theorem d_Md_search_100 : decode c_Md_search 100 = .ok (.if_icmp .eq 138, 3) := by decide +kernel
theorem d_Md_search_103 : decode c_Md_search 103 = .ok (.iload 4, 2) := by decide +kernel
theorem d_Md_search_105 : decode c_Md_search 105 = .ok (.iconst (-1), 1) := by decide +kernel
theorem d_Md_search_106 : decode c_Md_search 106 = .ok (.if_icmp .ne 16, 3) := by decide +kernel
theorem d_Md_search_109 : decode c_Md_search 109 = .ok (.aload_n 0, 1) := by decide +kernel
theorem d_Md_search_110 : decode c_Md_search 110 = .ok (.invokevirtual 196, 3) := by decide +kernel
theorem d_Md_search_113 : decode c_Md_search 113 = .ok (.aload_n 0, 1) := by decide +kernel
theorem d_Md_search_114 : decode c_Md_search 114 = .ok (.invokevirtual 199, 3) := by decide +kernel
theorem d_Md_search_117 : decode c_Md_search 117 = .ok (.istore 4, 2) := by decide +kernel
theorem d_Md_search_119 : decode c_Md_search 119 = .ok (.goto (-23), 3) := by decide +kernel
theorem d_Md_search_122 : decode c_Md_search 122 = .ok (.aload_n 0, 1) := by decide +kernel
theorem d_Md_search_123 : decode c_Md_search 123 = .ok (.getfield 109, 3) := by decide +kernel
theorem d_Md_search_126 : decode c_Md_search 126 = .ok (.iload 4, 2) := by decide +kernel
theorem d_Md_search_128 : decode c_Md_search 128 = .ok (.iaload, 1) := by decide +kernel
theorem d_Md_search_129 : decode c_Md_search 129 = .ok (.aload_n 0, 1) := by decide +kernel
theorem d_Md_search_130 : decode c_Md_search 130 = .ok (.getfield 26, 3) := by decide +kernel
theorem d_Md_search_133 : decode c_Md_search 133 = .ok (.aload_n 0, 1) := by decide +kernel
theorem d_Md_search_134 : decode c_Md_search 134 = .ok (.getfield 103, 3) := by decide +kernel
theorem d_Md_search_137 : decode c_Md_search 137 = .ok (.iload 4, 2) := by decide +kernel
theorem d_Md_search_139 : decode c_Md_search 139 = .ok (.iaload, 1) := by decide +kernel
theorem d_Md_search_140 : decode c_Md_search 140 = .ok (.iaload, 1) := by decide +kernel
theorem d_Md_search_141 : decode c_Md_search 141 = .ok (.if_icmp .ne 31, 3) := by decide +kernel
theorem d_Md_search_144 : decode c_Md_search 144 = .ok (.aload_n 0, 1) := by decide +kernel
theorem d_Md_search_145 : decode c_Md_search 145 = .ok (.iload 4, 2) := by decide +kernel
theorem d_Md_search_147 : decode c_Md_search 147 = .ok (.invokevirtual 165, 3) := by decide +kernel
theorem d_Md_search_150 : decode c_Md_search 150 = .ok (.ifCond .ne 13, 3) := by decide +kernel
theorem d_Md_search_153 : decode c_Md_search 153 = .ok (.aload_n 0, 1) := by decide +kernel
theorem d_Md_search_154 : decode c_Md_search 154 = .ok (.getfield 115, 3) := by decide +kernel
theorem d_Md_search_157 : decode c_Md_search 157 = .ok (.iload 4, 2) := by decide +kernel
theorem d_Md_search_159 : decode c_Md_search 159 = .ok (.iaload, 1) := by decide +kernel
theorem d_Md_search_160 : decode c_Md_search 160 = .ok (.goto 7, 3) := by decide +kernel
theorem d_Md_search_163 : decode c_Md_search 163 = .ok (.aload_n 0, 1) := by decide +kernel
theorem d_Md_search_164 : decode c_Md_search 164 = .ok (.invokevirtual 199, 3) := by decide +kernel
theorem d_Md_search_167 : decode c_Md_search 167 = .ok (.istore 4, 2) := by decide +kernel
theorem d_Md_search_169 : decode c_Md_search 169 = .ok (.goto (-73), 3) := by decide +kernel
theorem d_Md_search_172 : decode c_Md_search 172 = .ok (.aload_n 0, 1) := by decide +kernel
theorem d_Md_search_173 : decode c_Md_search 173 = .ok (.getfield 121, 3) := by decide +kernel
theorem d_Md_search_176 : decode c_Md_search 176 = .ok (.aload_n 0, 1) := by decide +kernel
theorem d_Md_search_177 : decode c_Md_search 177 = .ok (.getfield 118, 3) := by decide +kernel
theorem d_Md_search_180 : decode c_Md_search 180 = .ok (.iload 4, 2) := by decide +kernel
theorem d_Md_search_182 : decode c_Md_search 182 = .ok (.iastore, 1) := by decide +kernel
theorem d_Md_search_183 : decode c_Md_search 183 = .ok (.aload_n 0, 1) := by decide +kernel
theorem d_Md_search_184 : decode c_Md_search 184 = .ok (.getfield 124, 3) := by decide +kernel
theorem d_Md_search_187 : decode c_Md_search 187 = .ok (.aload_n 0, 1) := by decide +kernel
theorem d_Md_search_188 : decode c_Md_search 188 = .ok (.getfield 118, 3) := by decide +kernel
theorem d_Md_search_191 : decode c_Md_search 191 = .ok (.iconst (-1), 1) := by decide +kernel
theorem d_Md_search_192 : decode c_Md_search 192 = .ok (.iastore, 1) := by decide +kernel
theorem d_Md_search_193 : decode c_Md_search 193 = .ok (.aload_n 0, 1) := by decide +kernel
theorem d_Md_search_194 : decode c_Md_search 194 = .ok (.getfield 127, 3) := by decide +kernel
theorem d_Md_search_197 : decode c_Md_search 197 = .ok (.aload_n 0, 1) := by decide +kernel
theorem d_Md_search_198 : decode c_Md_search 198 = .ok (.getfield 118, 3) := by decide +kernel
theorem d_Md_search_201 : decode c_Md_search 201 = .ok (.aload_n 0, 1) := by decide +kernel
theorem d_Md_search_202 : decode c_Md_search 202 = .ok (.getfield 81, 3) := by decide +kernel
theorem d_Md_search_205 : decode c_Md_search 205 = .ok (.iastore, 1) := by decide +kernel
theorem d_Md_search_206 : decode c_Md_search 206 = .ok (.aload_n 0, 1) := by decide +kernel
theorem d_Md_search_207 : decode c_Md_search 207 = .ok (.getfield 130, 3) := by decide +kernel
theorem d_Md_search_210 : decode c_Md_search 210 = .ok (.aload_n 0, 1) := by decide +kernel
theorem d_Md_search_211 : decode c_Md_search 211 = .ok (.getfield 118, 3) := by decide +kernel
theorem d_Md_search_214 : decode c_Md_search 214 = .ok (.aload_n 0, 1) := by decide +kernel
theorem d_Md_search_215 : decode c_Md_search 215 = .ok (.getfield 100, 3) := by decide +kernel
theorem d_Md_search_218 : decode c_Md_search 218 = .ok (.iastore, 1) := by decide +kernel
theorem d_Md_search_219 : decode c_Md_search 219 = .ok (.aload_n 0, 1) := by decide +kernel
theorem d_Md_search_220 : decode c_Md_search 220 = .ok (.dup, 1) := by decide +kernel
theorem d_Md_search_221 : decode c_Md_search 221 = .ok (.getfield 118, 3) := by decide +kernel
theorem d_Md_search_224 : decode c_Md_search 224 = .ok (.iconst 1, 1) := by decide +kernel
theorem d_Md_search_225 : decode c_Md_search 225 = .ok (.iadd, 1) := by decide +kernel
theorem d_Md_search_226 : decode c_Md_search 226 = .ok (.putfield 118, 3) := by decide +kernel
theorem d_Md_search_229 : decode c_Md_search 229 = .ok (.aload_n 0, 1) := by decide +kernel
theorem d_Md_search_230 : decode c_Md_search 230 = .ok (.invokevirtual 199, 3) := by decide +kernel
theorem d_Md_search_233 : decode c_Md_search 233 = .ok (.istore 4, 2) := by decide +kernel
theorem d_Md_search_235 : decode c_Md_search 235 = .ok (.goto (-139), 3) := by decide +kernel
theorem d_Md_search_238 : decode c_Md_search 238 = .ok (.return_, 1) := by decide +kernel
theorem d_Md_may_0 : decode c_Md_may 0 = .ok (.aload_n 0, 1) := by decide +kernel
theorem d_Md_may_1 : decode c_Md_may 1 = .ok (.getfield 57, 3) := by decide +kernel
theorem d_Md_may_4 : decode c_Md_may 4 = .ok (.iload_n 1, 1) := by decide +kernel
theorem d_Md_may_5 : decode c_Md_may 5 = .ok (.iaload, 1) := by decide +kernel
theorem d_Md_may_6 : decode c_Md_may 6 = .ok (.istore_n 3, 1) := by decide +kernel
theorem d_Md_may_7 : decode c_Md_may 7 = .ok (.aload_n 0, 1) := by decide +kernel
theorem d_Md_may_8 : decode c_Md_may 8 = .ok (.getfield 16, 3) := by decide +kernel
theorem d_Md_may_11 : decode c_Md_may 11 = .ok (.iload_n 3, 1) := by decide +kernel
theorem d_Md_may_12 : decode c_Md_may 12 = .ok (.iaload, 1) := by decide +kernel
theorem d_Md_may_13 : decode c_Md_may 13 = .ok (.iconst 2, 1) := by decide +kernel
theorem d_Md_may_14 : decode c_Md_may 14 = .ok (.if_icmp .ne 28, 3) := by decide +kernel
theorem d_Md_may_17 : decode c_Md_may 17 = .ok (.aload_n 0, 1) := by decide +kernel
theorem d_Md_may_18 : decode c_Md_may 18 = .ok (.getfield 23, 3) := by decide +kernel
theorem d_Md_may_21 : decode c_Md_may 21 = .ok (.iload_n 3, 1) := by decide +kernel
theorem d_Md_may_22 : decode c_Md_may 22 = .ok (.iaload, 1) := by decide +kernel
theorem d_Md_may_23 : decode c_Md_may 23 = .ok (.iconst 1, 1) := by decide +kernel
theorem d_Md_may_24 : decode c_Md_may 24 = .ok (.if_icmp .ne 12, 3) := by decide +kernel
theorem d_Md_may_27 : decode c_Md_may 27 = .ok (.aload_n 0, 1) := by decide +kernel
theorem d_Md_may_28 : decode c_Md_may 28 = .ok (.getfield 16, 3) := by decide +kernel
theorem d_Md_may_31 : decode c_Md_may 31 = .ok (.iload_n 2, 1) := by decide +kernel
theorem d_Md_may_32 : decode c_Md_may 32 = .ok (.iaload, 1) := by decide +kernel
theorem d_Md_may_33 : decode c_Md_may 33 = .ok (.ifCond .ne 7, 3) := by decide +kernel
theorem d_Md_may_36 : decode c_Md_may 36 = .ok (.iconst 1, 1) := by decide +kernel
theorem d_Md_may_37 : decode c_Md_may 37 = .ok (.goto 4, 3) := by decide +kernel
theorem d_Md_may_40 : decode c_Md_may 40 = .ok (.iconst 0, 1) := by decide +kernel
theorem d_Md_may_41 : decode c_Md_may 41 = .ok (.ireturn, 1) := by decide +kernel
theorem d_Md_may_42 : decode c_Md_may 42 = .ok (.aload_n 0, 1) := by decide +kernel
theorem d_Md_may_43 : decode c_Md_may 43 = .ok (.getfield 16, 3) := by decide +kernel
theorem d_Md_may_46 : decode c_Md_may 46 = .ok (.iload_n 3, 1) := by decide +kernel
theorem d_Md_may_47 : decode c_Md_may 47 = .ok (.iaload, 1) := by decide +kernel
theorem d_Md_may_48 : decode c_Md_may 48 = .ok (.aload_n 0, 1) := by decide +kernel
theorem d_Md_may_49 : decode c_Md_may 49 = .ok (.getfield 16, 3) := by decide +kernel
theorem d_Md_may_52 : decode c_Md_may 52 = .ok (.iload_n 2, 1) := by decide +kernel
theorem d_Md_may_53 : decode c_Md_may 53 = .ok (.iaload, 1) := by decide +kernel
theorem d_Md_may_54 : decode c_Md_may 54 = .ok (.if_icmp .ne 18, 3) := by decide +kernel
theorem d_Md_may_57 : decode c_Md_may 57 = .ok (.aload_n 0, 1) := by decide +kernel
theorem d_Md_may_58 : decode c_Md_may 58 = .ok (.getfield 20, 3) := by decide +kernel
theorem d_Md_may_61 : decode c_Md_may 61 = .ok (.iload_n 3, 1) := by decide +kernel
theorem d_Md_may_62 : decode c_Md_may 62 = .ok (.iaload, 1) := by decide +kernel
theorem d_Md_may_63 : decode c_Md_may 63 = .ok (.aload_n 0, 1) := by decide +kernel
theorem d_Md_may_64 : decode c_Md_may 64 = .ok (.getfield 20, 3) := by decide +kernel
theorem d_Md_may_67 : decode c_Md_may 67 = .ok (.iload_n 2, 1) := by decide +kernel
theorem d_Md_may_68 : decode c_Md_may 68 = .ok (.iaload, 1) := by decide +kernel
theorem d_Md_may_69 : decode c_Md_may 69 = .ok (.if_icmp .eq 5, 3) := by decide +kernel
theorem d_Md_may_72 : decode c_Md_may 72 = .ok (.iconst 0, 1) := by decide +kernel
theorem d_Md_may_73 : decode c_Md_may 73 = .ok (.ireturn, 1) := by decide +kernel
theorem d_Md_may_74 : decode c_Md_may 74 = .ok (.aload_n 0, 1) := by decide +kernel
theorem d_Md_may_75 : decode c_Md_may 75 = .ok (.getfield 16, 3) := by decide +kernel
theorem d_Md_may_78 : decode c_Md_may 78 = .ok (.iload_n 3, 1) := by decide +kernel
theorem d_Md_may_79 : decode c_Md_may 79 = .ok (.iaload, 1) := by decide +kernel
theorem d_Md_may_80 : decode c_Md_may 80 = .ok (.ifCond .ne 5, 3) := by decide +kernel
theorem d_Md_may_83 : decode c_Md_may 83 = .ok (.iconst 1, 1) := by decide +kernel
theorem d_Md_may_84 : decode c_Md_may 84 = .ok (.ireturn, 1) := by decide +kernel
theorem d_Md_may_85 : decode c_Md_may 85 = .ok (.iconst 0, 1) := by decide +kernel
theorem d_Md_may_86 : decode c_Md_may 86 = .ok (.istore 4, 2) := by decide +kernel
theorem d_Md_may_88 : decode c_Md_may 88 = .ok (.iconst 0, 1) := by decide +kernel
theorem d_Md_may_89 : decode c_Md_may 89 = .ok (.istore 5, 2) := by decide +kernel
theorem d_Md_may_91 : decode c_Md_may 91 = .ok (.iconst 0, 1) := by decide +kernel
theorem d_Md_may_92 : decode c_Md_may 92 = .ok (.istore 6, 2) := by decide +kernel
theorem d_Md_may_94 : decode c_Md_may 94 = .ok (.iload 6, 2) := by decide +kernel
theorem d_Md_may_96 : decode c_Md_may 96 = .ok (.aload_n 0, 1) := by decide +kernel
theorem d_Md_may_97 : decode c_Md_may 97 = .ok (.getfield 26, 3) := by decide +kernel
theorem d_Md_may_100 : decode c_Md_may 100 = .ok (.iload_n 3, 1) := by decide +kernel
theorem d_Md_may_101 : decode c_Md_may 101 = .ok (.iaload, 1) := by decide +kernel
theorem d_Md_may_102 : decode c_Md_may 102 = .ok (.if_icmp .ge 60, 3) := by decide +kernel
theorem d_Md_may_105 : decode c_Md_may 105 = .ok (.aload_n 0, 1) := by decide +kernel
theorem d_Md_may_106 : decode c_Md_may 106 = .ok (.getfield 29, 3) := by decide +kernel
theorem d_Md_may_109 : decode c_Md_may 109 = .ok (.bipush 12, 2) := by decide +kernel
theorem d_Md_may_111 : decode c_Md_may 111 = .ok (.iload_n 3, 1) := by decide +kernel
theorem d_Md_may_112 : decode c_Md_may 112 = .ok (.imul, 1) := by decide +kernel
theorem d_Md_may_113 : decode c_Md_may 113 = .ok (.iload 6, 2) := by decide +kernel
theorem d_Md_may_115 : decode c_Md_may 115 = .ok (.iadd, 1) := by decide +kernel
theorem d_Md_may_116 : decode c_Md_may 116 = .ok (.iaload, 1) := by decide +kernel
theorem d_Md_may_117 : decode c_Md_may 117 = .ok (.istore 7, 2) := by decide +kernel
theorem d_Md_may_119 : decode c_Md_may 119 = .ok (.aload_n 0, 1) := by decide +kernel
theorem d_Md_may_120 : decode c_Md_may 120 = .ok (.getfield 16, 3) := by decide +kernel
theorem d_Md_may_123 : decode c_Md_may 123 = .ok (.iload 7, 2) := by decide +kernel
theorem d_Md_may_125 : decode c_Md_may 125 = .ok (.iaload, 1) := by decide +kernel
theorem d_Md_may_126 : decode c_Md_may 126 = .ok (.iconst 2, 1) := by decide +kernel
theorem d_Md_may_127 : decode c_Md_may 127 = .ok (.if_icmp .ne 14, 3) := by decide +kernel
theorem d_Md_may_130 : decode c_Md_may 130 = .ok (.aload_n 0, 1) := by decide +kernel
theorem d_Md_may_131 : decode c_Md_may 131 = .ok (.getfield 23, 3) := by decide +kernel
theorem d_Md_may_134 : decode c_Md_may 134 = .ok (.iload 7, 2) := by decide +kernel
theorem d_Md_may_136 : decode c_Md_may 136 = .ok (.iaload, 1) := by decide +kernel
theorem d_Md_may_137 : decode c_Md_may 137 = .ok (.iconst 3, 1) := by decide +kernel
theorem d_Md_may_138 : decode c_Md_may 138 = .ok (.if_icmp .eq 6, 3) := by decide +kernel
theorem d_Md_may_141 : decode c_Md_may 141 = .ok (.iinc 4 1, 3) := by decide +kernel
theorem d_Md_may_144 : decode c_Md_may 144 = .ok (.aload_n 0, 1) := by decide +kernel
theorem d_Md_may_145 : decode c_Md_may 145 = .ok (.iload 7, 2) := by decide +kernel
theorem d_Md_may_147 : decode c_Md_may 147 = .ok (.invokevirtual 172, 3) := by decide +kernel
theorem d_Md_may_150 : decode c_Md_may 150 = .ok (.ifCond .eq 6, 3) := by decide +kernel
theorem d_Md_may_153 : decode c_Md_may 153 = .ok (.iconst 1, 1) := by decide +kernel
theorem d_Md_may_154 : decode c_Md_may 154 = .ok (.istore 5, 2) := by decide +kernel
theorem d_Md_may_156 : decode c_Md_may 156 = .ok (.iinc 6 1, 3) := by decide +kernel
theorem d_Md_may_159 : decode c_Md_may 159 = .ok (.goto (-65), 3) := by decide +kernel
theorem d_Md_may_162 : decode c_Md_may 162 = .ok (.aload_n 0, 1) := by decide +kernel
theorem d_Md_may_163 : decode c_Md_may 163 = .ok (.getfield 26, 3) := by decide +kernel
theorem d_Md_may_166 : decode c_Md_may 166 = .ok (.iload_n 2, 1) := by decide +kernel
theorem d_Md_may_167 : decode c_Md_may 167 = .ok (.iaload, 1) := by decide +kernel
theorem d_Md_may_168 : decode c_Md_may 168 = .ok (.iload 4, 2) := by decide +kernel
theorem d_Md_may_170 : decode c_Md_may 170 = .ok (.if_icmp .lt 23, 3) := by decide +kernel
theorem d_Md_may_173 : decode c_Md_may 173 = .ok (.iload 5, 2) := by decide +kernel
theorem d_Md_may_175 : decode c_Md_may 175 = .ok (.ifCond .ne 20, 3) := by decide +kernel
theorem d_Md_may_178 : decode c_Md_may 178 = .ok (.aload_n 0, 1) := by decide +kernel
theorem d_Md_may_179 : decode c_Md_may 179 = .ok (.getfield 26, 3) := by decide +kernel
theorem d_Md_may_182 : decode c_Md_may 182 = .ok (.iload_n 2, 1) := by decide +kernel
theorem d_Md_may_183 : decode c_Md_may 183 = .ok (.iaload, 1) := by decide +kernel
theorem d_Md_may_184 : decode c_Md_may 184 = .ok (.aload_n 0, 1) := by decide +kernel
theorem d_Md_may_185 : decode c_Md_may 185 = .ok (.getfield 26, 3) := by decide +kernel
theorem d_Md_may_188 : decode c_Md_may 188 = .ok (.iload_n 3, 1) := by decide +kernel
theorem d_Md_may_189 : decode c_Md_may 189 = .ok (.iaload, 1) := by decide +kernel
theorem d_Md_may_190 : decode c_Md_may 190 = .ok (.if_icmp .le 5, 3) := by decide +kernel
theorem d_Md_may_193 : decode c_Md_may 193 = .ok (.iconst 0, 1) := by decide +kernel
theorem d_Md_may_194 : decode c_Md_may 194 = .ok (.ireturn, 1) := by decide +kernel
theorem d_Md_may_195 : decode c_Md_may 195 = .ok (.aload_n 0, 1) := by decide +kernel
theorem d_Md_may_196 : decode c_Md_may 196 = .ok (.getfield 20, 3) := by decide +kernel
theorem d_Md_may_199 : decode c_Md_may 199 = .ok (.iload_n 3, 1) := by decide +kernel
theorem d_Md_may_200 : decode c_Md_may 200 = .ok (.iaload, 1) := by decide +kernel
theorem d_Md_may_201 : decode c_Md_may 201 = .ok (.invokestatic 168, 3) := by decide +kernel
theorem d_Md_may_204 : decode c_Md_may 204 = .ok (.ifCond .ne 12, 3) := by decide +kernel
theorem d_Md_may_207 : decode c_Md_may 207 = .ok (.aload_n 0, 1) := by decide +kernel
theorem d_Md_may_208 : decode c_Md_may 208 = .ok (.getfield 26, 3) := by decide +kernel
theorem d_Md_may_211 : decode c_Md_may 211 = .ok (.iload_n 3, 1) := by decide +kernel
theorem d_Md_may_212 : decode c_Md_may 212 = .ok (.iaload, 1) := by decide +kernel
theorem d_Md_may_213 : decode c_Md_may 213 = .ok (.ifCond .ne 5, 3) := by decide +kernel
theorem d_Md_may_216 : decode c_Md_may 216 = .ok (.iconst 1, 1) := by decide +kernel
theorem d_Md_may_217 : decode c_Md_may 217 = .ok (.ireturn, 1) := by decide +kernel
theorem d_Md_may_218 : decode c_Md_may 218 = .ok (.aload_n 0, 1) := by decide +kernel
theorem d_Md_may_219 : decode c_Md_may 219 = .ok (.getfield 29, 3) := by decide +kernel
theorem d_Md_may_222 : decode c_Md_may 222 = .ok (.bipush 12, 2) := by decide +kernel
theorem d_Md_may_224 : decode c_Md_may 224 = .ok (.iload_n 3, 1) := by decide +kernel
theorem d_Md_may_225 : decode c_Md_may 225 = .ok (.imul, 1) := by decide +kernel
theorem d_Md_may_226 : decode c_Md_may 226 = .ok (.iaload, 1) := by decide +kernel
theorem d_Md_may_227 : decode c_Md_may 227 = .ok (.istore 6, 2) := by decide +kernel
theorem d_Md_may_229 : decode c_Md_may 229 = .ok (.aload_n 0, 1) := by decide +kernel
theorem d_Md_may_230 : decode c_Md_may 230 = .ok (.getfield 16, 3) := by decide +kernel
theorem d_Md_may_233 : decode c_Md_may 233 = .ok (.iload 6, 2) := by decide +kernel
theorem d_Md_may_235 : decode c_Md_may 235 = .ok (.iaload, 1) := by decide +kernel
theorem d_Md_may_236 : decode c_Md_may 236 = .ok (.iconst 2, 1) := by decide +kernel
theorem d_Md_may_237 : decode c_Md_may 237 = .ok (.if_icmp .ne 5, 3) := by decide +kernel
theorem d_Md_may_240 : decode c_Md_may 240 = .ok (.iconst 1, 1) := by decide +kernel
theorem d_Md_may_241 : decode c_Md_may 241 = .ok (.ireturn, 1) := by decide +kernel
theorem d_Md_may_242 : decode c_Md_may 242 = .ok (.aload_n 0, 1) := by decide +kernel
theorem d_Md_may_243 : decode c_Md_may 243 = .ok (.getfield 29, 3) := by decide +kernel
theorem d_Md_may_246 : decode c_Md_may 246 = .ok (.bipush 12, 2) := by decide +kernel
theorem d_Md_may_248 : decode c_Md_may 248 = .ok (.iload_n 2, 1) := by decide +kernel
theorem d_Md_may_249 : decode c_Md_may 249 = .ok (.imul, 1) := by decide +kernel
theorem d_Md_may_250 : decode c_Md_may 250 = .ok (.iaload, 1) := by decide +kernel
theorem d_Md_may_251 : decode c_Md_may 251 = .ok (.istore 7, 2) := by decide +kernel
theorem d_Md_may_253 : decode c_Md_may 253 = .ok (.aload_n 0, 1) := by decide +kernel
theorem d_Md_may_254 : decode c_Md_may 254 = .ok (.getfield 16, 3) := by decide +kernel
theorem d_Md_may_257 : decode c_Md_may 257 = .ok (.iload 7, 2) := by decide +kernel
theorem d_Md_may_259 : decode c_Md_may 259 = .ok (.iaload, 1) := by decide +kernel
theorem d_Md_may_260 : decode c_Md_may 260 = .ok (.aload_n 0, 1) := by decide +kernel
theorem d_Md_may_261 : decode c_Md_may 261 = .ok (.getfield 16, 3) := by decide +kernel
theorem d_Md_may_264 : decode c_Md_may 264 = .ok (.iload 6, 2) := by decide +kernel
theorem d_Md_may_266 : decode c_Md_may 266 = .ok (.iaload, 1) := by decide +kernel
theorem d_Md_may_267 : decode c_Md_may 267 = .ok (.if_icmp .ne 24, 3) := by decide +kernel
theorem d_Md_may_270 : decode c_Md_may 270 = .ok (.aload_n 0, 1) := by decide +kernel
theorem d_Md_may_271 : decode c_Md_may 271 = .ok (.getfield 20, 3) := by decide +kernel
theorem d_Md_may_274 : decode c_Md_may 274 = .ok (.iload 7, 2) := by decide +kernel
theorem d_Md_may_276 : decode c_Md_may 276 = .ok (.iaload, 1) := by decide +kernel
theorem d_Md_may_277 : decode c_Md_may 277 = .ok (.aload_n 0, 1) := by decide +kernel
theorem d_Md_may_278 : decode c_Md_may 278 = .ok (.getfield 20, 3) := by decide +kernel
theorem d_Md_may_281 : decode c_Md_may 281 = .ok (.iload 6, 2) := by decide +kernel
theorem d_Md_may_283 : decode c_Md_may 283 = .ok (.iaload, 1) := by decide +kernel
theorem d_Md_may_284 : decode c_Md_may 284 = .ok (.if_icmp .ne 7, 3) := by decide +kernel
theorem d_Md_may_287 : decode c_Md_may 287 = .ok (.iconst 1, 1) := by decide +kernel
theorem d_Md_may_288 : decode c_Md_may 288 = .ok (.goto 4, 3) := by decide +kernel
theorem d_Md_may_291 : decode c_Md_may 291 = .ok (.iconst 0, 1) := by decide +kernel
theorem d_Md_may_292 : decode c_Md_may 292 = .ok (.ireturn, 1) := by decide +kernel
theorem d_Md_thrown_0 : decode c_Md_thrown 0 = .ok (.aload_n 0, 1) := by decide +kernel
theorem d_Md_thrown_1 : decode c_Md_thrown 1 = .ok (.getfield 7, 3) := by decide +kernel
theorem d_Md_thrown_4 : decode c_Md_thrown 4 = .ok (.ireturn, 1) := by decide +kernel
theorem d_Md_noTree_0 : decode c_Md_noTree 0 = .ok (.iload_n 1, 1) := by decide +kernel
theorem d_Md_noTree_1 : decode c_Md_noTree 1 = .ok (.ifCond .lt 11, 3) := by decide +kernel
theorem d_Md_noTree_4 : decode c_Md_noTree 4 = .ok (.iload_n 1, 1) := by decide +kernel
theorem d_Md_noTree_5 : decode c_Md_noTree 5 = .ok (.aload_n 0, 1) := by decide +kernel
theorem d_Md_noTree_6 : decode c_Md_noTree 6 = .ok (.getfield 13, 3) := by decide +kernel
theorem d_Md_noTree_9 : decode c_Md_noTree 9 = .ok (.if_icmp .lt 7, 3) := by decide +kernel
theorem d_Md_noTree_12 : decode c_Md_noTree 12 = .ok (.iconst 1, 1) := by decide +kernel
theorem d_Md_noTree_13 : decode c_Md_noTree 13 = .ok (.goto 4, 3) := by decide +kernel
theorem d_Md_noTree_16 : decode c_Md_noTree 16 = .ok (.iconst 0, 1) := by decide +kernel
theorem d_Md_noTree_17 : decode c_Md_noTree 17 = .ok (.ireturn, 1) := by decide +kernel
theorem d_Md_tree_0 : decode c_Md_tree 0 = .ok (.aload_n 0, 1) := by decide +kernel
theorem d_Md_tree_1 : decode c_Md_tree 1 = .ok (.iload_n 3, 1) := by decide +kernel
theorem d_Md_tree_2 : decode c_Md_tree 2 = .ok (.ifCond .eq 7, 3) := by decide +kernel
theorem d_Md_tree_5 : decode c_Md_tree 5 = .ok (.iconst 1, 1) := by decide +kernel
theorem d_Md_tree_6 : decode c_Md_tree 6 = .ok (.goto 18, 3) := by decide +kernel
theorem d_Md_tree_9 : decode c_Md_tree 9 = .ok (.aload_n 0, 1) := by decide +kernel
theorem d_Md_tree_10 : decode c_Md_tree 10 = .ok (.getfield 13, 3) := by decide +kernel
theorem d_Md_tree_13 : decode c_Md_tree 13 = .ok (.sipush 240, 3) := by decide +kernel
theorem d_Md_tree_16 : decode c_Md_tree 16 = .ok (.if_icmp .ne 7, 3) := by decide +kernel
theorem d_Md_tree_19 : decode c_Md_tree 19 = .ok (.iconst 2, 1) := by decide +kernel
theorem d_Md_tree_20 : decode c_Md_tree 20 = .ok (.goto 4, 3) := by decide +kernel
theorem d_Md_tree_23 : decode c_Md_tree 23 = .ok (.iconst 0, 1) := by decide +kernel
theorem d_Md_tree_24 : decode c_Md_tree 24 = .ok (.putfield 7, 3) := by decide +kernel
theorem d_Md_tree_27 : decode c_Md_tree 27 = .ok (.aload_n 0, 1) := by decide +kernel
theorem d_Md_tree_28 : decode c_Md_tree 28 = .ok (.getfield 7, 3) := by decide +kernel
theorem d_Md_tree_31 : decode c_Md_tree 31 = .ok (.ifCond .eq 5, 3) := by decide +kernel
theorem d_Md_tree_34 : decode c_Md_tree 34 = .ok (.iconst 0, 1) := by decide +kernel
theorem d_Md_tree_35 : decode c_Md_tree 35 = .ok (.ireturn, 1) := by decide +kernel
theorem d_Md_tree_36 : decode c_Md_tree 36 = .ok (.aload_n 0, 1) := by decide +kernel
theorem d_Md_tree_37 : decode c_Md_tree 37 = .ok (.getfield 16, 3) := by decide +kernel
theorem d_Md_tree_40 : decode c_Md_tree 40 = .ok (.aload_n 0, 1) := by decide +kernel
theorem d_Md_tree_41 : decode c_Md_tree 41 = .ok (.getfield 13, 3) := by decide +kernel
theorem d_Md_tree_44 : decode c_Md_tree 44 = .ok (.iload_n 1, 1) := by decide +kernel
theorem d_Md_tree_45 : decode c_Md_tree 45 = .ok (.iastore, 1) := by decide +kernel
theorem d_Md_tree_46 : decode c_Md_tree 46 = .ok (.aload_n 0, 1) := by decide +kernel
theorem d_Md_tree_47 : decode c_Md_tree 47 = .ok (.getfield 20, 3) := by decide +kernel
theorem d_Md_tree_50 : decode c_Md_tree 50 = .ok (.aload_n 0, 1) := by decide +kernel
theorem d_Md_tree_51 : decode c_Md_tree 51 = .ok (.getfield 13, 3) := by decide +kernel
theorem d_Md_tree_54 : decode c_Md_tree 54 = .ok (.iload_n 2, 1) := by decide +kernel
theorem d_Md_tree_55 : decode c_Md_tree 55 = .ok (.iastore, 1) := by decide +kernel
theorem d_Md_tree_56 : decode c_Md_tree 56 = .ok (.aload_n 0, 1) := by decide +kernel
theorem d_Md_tree_57 : decode c_Md_tree 57 = .ok (.getfield 32, 3) := by decide +kernel
theorem d_Md_tree_60 : decode c_Md_tree 60 = .ok (.aload_n 0, 1) := by decide +kernel
theorem d_Md_tree_61 : decode c_Md_tree 61 = .ok (.getfield 13, 3) := by decide +kernel
theorem d_Md_tree_64 : decode c_Md_tree 64 = .ok (.iload_n 1, 1) := by decide +kernel
theorem d_Md_tree_65 : decode c_Md_tree 65 = .ok (.iconst 2, 1) := by decide +kernel
theorem d_Md_tree_66 : decode c_Md_tree 66 = .ok (.if_icmp .eq 7, 3) := by decide +kernel
theorem d_Md_tree_69 : decode c_Md_tree 69 = .ok (.iconst 1, 1) := by decide +kernel
theorem d_Md_tree_70 : decode c_Md_tree 70 = .ok (.goto 4, 3) := by decide +kernel
theorem d_Md_tree_73 : decode c_Md_tree 73 = .ok (.iconst 0, 1) := by decide +kernel
theorem d_Md_tree_74 : decode c_Md_tree 74 = .ok (.bastore, 1) := by decide +kernel
theorem d_Md_tree_75 : decode c_Md_tree 75 = .ok (.aload_n 0, 1) := by decide +kernel
theorem d_Md_tree_76 : decode c_Md_tree 76 = .ok (.getfield 42, 3) := by decide +kernel
theorem d_Md_tree_79 : decode c_Md_tree 79 = .ok (.aload_n 0, 1) := by decide +kernel
theorem d_Md_tree_80 : decode c_Md_tree 80 = .ok (.getfield 13, 3) := by decide +kernel
theorem d_Md_tree_83 : decode c_Md_tree 83 = .ok (.iconst 1, 1) := by decide +kernel
theorem d_Md_tree_84 : decode c_Md_tree 84 = .ok (.iastore, 1) := by decide +kernel
theorem d_Md_tree_85 : decode c_Md_tree 85 = .ok (.aload_n 0, 1) := by decide +kernel
theorem d_Md_tree_86 : decode c_Md_tree 86 = .ok (.dup, 1) := by decide +kernel
theorem d_Md_tree_87 : decode c_Md_tree 87 = .ok (.getfield 13, 3) := by decide +kernel
theorem d_Md_tree_90 : decode c_Md_tree 90 = .ok (.iconst 1, 1) := by decide +kernel
theorem d_Md_tree_91 : decode c_Md_tree 91 = .ok (.iadd, 1) := by decide +kernel
theorem d_Md_tree_92 : decode c_Md_tree 92 = .ok (.putfield 13, 3) := by decide +kernel
theorem d_Md_tree_95 : decode c_Md_tree 95 = .ok (.aload_n 0, 1) := by decide +kernel
theorem d_Md_tree_96 : decode c_Md_tree 96 = .ok (.getfield 13, 3) := by decide +kernel
theorem d_Md_tree_99 : decode c_Md_tree 99 = .ok (.iconst 1, 1) := by decide +kernel
theorem d_Md_tree_100 : decode c_Md_tree 100 = .ok (.isub, 1) := by decide +kernel
theorem d_Md_tree_101 : decode c_Md_tree 101 = .ok (.ireturn, 1) := by decide +kernel
theorem d_Md_leaf_0 : decode c_Md_leaf 0 = .ok (.aload_n 0, 1) := by decide +kernel
theorem d_Md_leaf_1 : decode c_Md_leaf 1 = .ok (.iconst 0, 1) := by decide +kernel
theorem d_Md_leaf_2 : decode c_Md_leaf 2 = .ok (.iload_n 1, 1) := by decide +kernel
theorem d_Md_leaf_3 : decode c_Md_leaf 3 = .ok (.iload_n 1, 1) := by decide +kernel
theorem d_Md_leaf_4 : decode c_Md_leaf 4 = .ok (.ifCond .lt 9, 3) := by decide +kernel
theorem d_Md_leaf_7 : decode c_Md_leaf 7 = .ok (.iload_n 1, 1) := by decide +kernel
theorem d_Md_leaf_8 : decode c_Md_leaf 8 = .ok (.bipush 99, 2) := by decide +kernel
theorem d_Md_leaf_10 : decode c_Md_leaf 10 = .ok (.if_icmp .le 7, 3) := by decide +kernel
theorem d_Md_leaf_13 : decode c_Md_leaf 13 = .ok (.iconst 1, 1) := by decide +kernel
theorem d_Md_leaf_14 : decode c_Md_leaf 14 = .ok (.goto 4, 3) := by decide +kernel
theorem d_Md_leaf_17 : decode c_Md_leaf 17 = .ok (.iconst 0, 1) := by decide +kernel
theorem d_Md_leaf_18 : decode c_Md_leaf 18 = .ok (.invokevirtual 203, 3) := by decide +kernel
theorem d_Md_leaf_21 : decode c_Md_leaf 21 = .ok (.ireturn, 1) := by decide +kernel
theorem d_Md_node_0 : decode c_Md_node 0 = .ok (.aload_n 0, 1) := by decide +kernel
theorem d_Md_node_1 : decode c_Md_node 1 = .ok (.iconst 1, 1) := by decide +kernel
theorem d_Md_node_2 : decode c_Md_node 2 = .ok (.iload_n 1, 1) := by decide +kernel
theorem d_Md_node_3 : decode c_Md_node 3 = .ok (.iload_n 1, 1) := by decide +kernel
theorem d_Md_node_4 : decode c_Md_node 4 = .ok (.ifCond .lt 9, 3) := by decide +kernel
theorem d_Md_node_7 : decode c_Md_node 7 = .ok (.iload_n 1, 1) := by decide +kernel
theorem d_Md_node_8 : decode c_Md_node 8 = .ok (.bipush 9, 2) := by decide +kernel
theorem d_Md_node_10 : decode c_Md_node 10 = .ok (.if_icmp .le 7, 3) := by decide +kernel
theorem d_Md_node_13 : decode c_Md_node 13 = .ok (.iconst 1, 1) := by decide +kernel
theorem d_Md_node_14 : decode c_Md_node 14 = .ok (.goto 4, 3) := by decide +kernel
theorem d_Md_node_17 : decode c_Md_node 17 = .ok (.iconst 0, 1) := by decide +kernel
theorem d_Md_node_18 : decode c_Md_node 18 = .ok (.invokevirtual 203, 3) := by decide +kernel
theorem d_Md_node_21 : decode c_Md_node 21 = .ok (.ireturn, 1) := by decide +kernel
theorem d_Md_hole_0 : decode c_Md_hole 0 = .ok (.aload_n 0, 1) := by decide +kernel
theorem d_Md_hole_1 : decode c_Md_hole 1 = .ok (.iconst 2, 1) := by decide +kernel
theorem d_Md_hole_2 : decode c_Md_hole 2 = .ok (.iload_n 1, 1) := by decide +kernel
theorem d_Md_hole_3 : decode c_Md_hole 3 = .ok (.iload_n 1, 1) := by decide +kernel
theorem d_Md_hole_4 : decode c_Md_hole 4 = .ok (.ifCond .lt 18, 3) := by decide +kernel
theorem d_Md_hole_7 : decode c_Md_hole 7 = .ok (.iload_n 1, 1) := by decide +kernel
theorem d_Md_hole_8 : decode c_Md_hole 8 = .ok (.bipush 7, 2) := by decide +kernel
theorem d_Md_hole_10 : decode c_Md_hole 10 = .ok (.if_icmp .gt 12, 3) := by decide +kernel
theorem d_Md_hole_13 : decode c_Md_hole 13 = .ok (.iload_n 2, 1) := by decide +kernel
theorem d_Md_hole_14 : decode c_Md_hole 14 = .ok (.ifCond .lt 8, 3) := by decide +kernel
theorem d_Md_hole_17 : decode c_Md_hole 17 = .ok (.iload_n 2, 1) := by decide +kernel
theorem d_Md_hole_18 : decode c_Md_hole 18 = .ok (.iconst 3, 1) := by decide +kernel
theorem d_Md_hole_19 : decode c_Md_hole 19 = .ok (.if_icmp .le 7, 3) := by decide +kernel
theorem d_Md_hole_22 : decode c_Md_hole 22 = .ok (.iconst 1, 1) := by decide +kernel
theorem d_Md_hole_23 : decode c_Md_hole 23 = .ok (.goto 4, 3) := by decide +kernel
theorem d_Md_hole_26 : decode c_Md_hole 26 = .ok (.iconst 0, 1) := by decide +kernel
theorem d_Md_hole_27 : decode c_Md_hole 27 = .ok (.invokevirtual 203, 3) := by decide +kernel
theorem d_Md_hole_30 : decode c_Md_hole 30 = .ok (.istore_n 3, 1) := by decide +kernel
theorem d_Md_hole_31 : decode c_Md_hole 31 = .ok (.aload_n 0, 1) := by decide +kernel
theorem d_Md_hole_32 : decode c_Md_hole 32 = .ok (.getfield 7, 3) := by decide +kernel
theorem d_Md_hole_35 : decode c_Md_hole 35 = .ok (.ifCond .ne 10, 3) := by decide +kernel
theorem d_Md_hole_38 : decode c_Md_hole 38 = .ok (.aload_n 0, 1) := by decide +kernel
theorem d_Md_hole_39 : decode c_Md_hole 39 = .ok (.getfield 23, 3) := by decide +kernel
theorem d_Md_hole_42 : decode c_Md_hole 42 = .ok (.iload_n 3, 1) := by decide +kernel
theorem d_Md_hole_43 : decode c_Md_hole 43 = .ok (.iload_n 2, 1) := by decide +kernel
theorem d_Md_hole_44 : decode c_Md_hole 44 = .ok (.iastore, 1) := by decide +kernel
theorem d_Md_hole_45 : decode c_Md_hole 45 = .ok (.iload_n 3, 1) := by decide +kernel
theorem d_Md_hole_46 : decode c_Md_hole 46 = .ok (.ireturn, 1) := by decide +kernel
theorem d_Md_more_0 : decode c_Md_more 0 = .ok (.aload_n 0, 1) := by decide +kernel
theorem d_Md_more_1 : decode c_Md_more 1 = .ok (.aload_n 0, 1) := by decide +kernel
theorem d_Md_more_2 : decode c_Md_more 2 = .ok (.iload_n 1, 1) := by decide +kernel
theorem d_Md_more_3 : decode c_Md_more 3 = .ok (.invokevirtual 207, 3) := by decide +kernel
theorem d_Md_more_6 : decode c_Md_more 6 = .ok (.ifCond .ne 11, 3) := by decide +kernel
theorem d_Md_more_9 : decode c_Md_more 9 = .ok (.aload_n 0, 1) := by decide +kernel
theorem d_Md_more_10 : decode c_Md_more 10 = .ok (.iload_n 2, 1) := by decide +kernel
theorem d_Md_more_11 : decode c_Md_more 11 = .ok (.invokevirtual 207, 3) := by decide +kernel
theorem d_Md_more_14 : decode c_Md_more 14 = .ok (.ifCond .eq 7, 3) := by decide +kernel
theorem d_Md_more_17 : decode c_Md_more 17 = .ok (.iconst 1, 1) := by decide +kernel
theorem d_Md_more_18 : decode c_Md_more 18 = .ok (.goto 4, 3) := by decide +kernel
theorem d_Md_more_21 : decode c_Md_more 21 = .ok (.iconst 0, 1) := by decide +kernel
theorem d_Md_more_22 : decode c_Md_more 22 = .ok (.putfield 7, 3) := by decide +kernel
theorem d_Md_more_25 : decode c_Md_more 25 = .ok (.aload_n 0, 1) := by decide +kernel
theorem d_Md_more_26 : decode c_Md_more 26 = .ok (.getfield 7, 3) := by decide +kernel
theorem d_Md_more_29 : decode c_Md_more 29 = .ok (.ifCond .eq 5, 3) := by decide +kernel
theorem d_Md_more_32 : decode c_Md_more 32 = .ok (.iconst 0, 1) := by decide +kernel
theorem d_Md_more_33 : decode c_Md_more 33 = .ok (.ireturn, 1) := by decide +kernel
theorem d_Md_more_34 : decode c_Md_more 34 = .ok (.aload_n 0, 1) := by decide +kernel
theorem d_Md_more_35 : decode c_Md_more 35 = .ok (.getfield 16, 3) := by decide +kernel
theorem d_Md_more_38 : decode c_Md_more 38 = .ok (.iload_n 1, 1) := by decide +kernel
theorem d_Md_more_39 : decode c_Md_more 39 = .ok (.iaload, 1) := by decide +kernel
theorem d_Md_more_40 : decode c_Md_more 40 = .ok (.iconst 1, 1) := by decide +kernel
theorem d_Md_more_41 : decode c_Md_more 41 = .ok (.if_icmp .ne 46, 3) := by decide +kernel
theorem d_Md_more_44 : decode c_Md_more 44 = .ok (.aload_n 0, 1) := by decide +kernel
theorem d_Md_more_45 : decode c_Md_more 45 = .ok (.getfield 36, 3) := by decide +kernel
theorem d_Md_more_48 : decode c_Md_more 48 = .ok (.iload_n 1, 1) := by decide +kernel
theorem d_Md_more_49 : decode c_Md_more 49 = .ok (.baload, 1) := by decide +kernel
theorem d_Md_more_50 : decode c_Md_more 50 = .ok (.ifCond .ne 37, 3) := by decide +kernel
theorem d_Md_more_53 : decode c_Md_more 53 = .ok (.iload_n 2, 1) := by decide +kernel
theorem d_Md_more_54 : decode c_Md_more 54 = .ok (.iload_n 1, 1) := by decide +kernel
theorem d_Md_more_55 : decode c_Md_more 55 = .ok (.if_icmp .eq 32, 3) := by decide +kernel
theorem d_Md_more_58 : decode c_Md_more 58 = .ok (.aload_n 0, 1) := by decide +kernel
theorem d_Md_more_59 : decode c_Md_more 59 = .ok (.getfield 39, 3) := by decide +kernel
theorem d_Md_more_62 : decode c_Md_more 62 = .ok (.iload_n 2, 1) := by decide +kernel
theorem d_Md_more_63 : decode c_Md_more 63 = .ok (.iaload, 1) := by decide +kernel
theorem d_Md_more_64 : decode c_Md_more 64 = .ok (.bipush 20, 2) := by decide +kernel
theorem d_Md_more_66 : decode c_Md_more 66 = .ok (.if_icmp .ge 21, 3) := by decide +kernel
theorem d_Md_more_69 : decode c_Md_more 69 = .ok (.aload_n 0, 1) := by decide +kernel
theorem d_Md_more_70 : decode c_Md_more 70 = .ok (.getfield 42, 3) := by decide +kernel
theorem d_Md_more_73 : decode c_Md_more 73 = .ok (.iload_n 1, 1) := by decide +kernel
theorem d_Md_more_74 : decode c_Md_more 74 = .ok (.iaload, 1) := by decide +kernel
theorem d_Md_more_75 : decode c_Md_more 75 = .ok (.aload_n 0, 1) := by decide +kernel
theorem d_Md_more_76 : decode c_Md_more 76 = .ok (.getfield 42, 3) := by decide +kernel
theorem d_Md_more_79 : decode c_Md_more 79 = .ok (.iload_n 2, 1) := by decide +kernel
theorem d_Md_more_80 : decode c_Md_more 80 = .ok (.iaload, 1) := by decide +kernel
theorem d_Md_more_81 : decode c_Md_more 81 = .ok (.iadd, 1) := by decide +kernel
theorem d_Md_more_82 : decode c_Md_more 82 = .ok (.bipush 70, 2) := by decide +kernel
theorem d_Md_more_84 : decode c_Md_more 84 = .ok (.if_icmp .le 7, 3) := by decide +kernel
theorem d_Md_more_87 : decode c_Md_more 87 = .ok (.iconst 1, 1) := by decide +kernel
theorem d_Md_more_88 : decode c_Md_more 88 = .ok (.goto 4, 3) := by decide +kernel
theorem d_Md_more_91 : decode c_Md_more 91 = .ok (.iconst 0, 1) := by decide +kernel
theorem d_Md_more_92 : decode c_Md_more 92 = .ok (.istore_n 3, 1) := by decide +kernel
theorem d_Md_more_93 : decode c_Md_more 93 = .ok (.aload_n 0, 1) := by decide +kernel
theorem d_Md_more_94 : decode c_Md_more 94 = .ok (.iload_n 3, 1) := by decide +kernel
theorem d_Md_more_95 : decode c_Md_more 95 = .ok (.ifCond .eq 7, 3) := by decide +kernel
theorem d_Md_more_98 : decode c_Md_more 98 = .ok (.iconst 2, 1) := by decide +kernel
theorem d_Md_more_99 : decode c_Md_more 99 = .ok (.goto 4, 3) := by decide +kernel
theorem d_Md_more_102 : decode c_Md_more 102 = .ok (.iconst 0, 1) := by decide +kernel
theorem d_Md_more_103 : decode c_Md_more 103 = .ok (.putfield 7, 3) := by decide +kernel
theorem d_Md_more_106 : decode c_Md_more 106 = .ok (.iload_n 3, 1) := by decide +kernel
theorem d_Md_more_107 : decode c_Md_more 107 = .ok (.ifCond .ne 14, 3) := by decide +kernel
theorem d_Md_more_110 : decode c_Md_more 110 = .ok (.aload_n 0, 1) := by decide +kernel
theorem d_Md_more_111 : decode c_Md_more 111 = .ok (.getfield 26, 3) := by decide +kernel
theorem d_Md_more_114 : decode c_Md_more 114 = .ok (.iload_n 1, 1) := by decide +kernel
theorem d_Md_more_115 : decode c_Md_more 115 = .ok (.iaload, 1) := by decide +kernel
theorem d_Md_more_116 : decode c_Md_more 116 = .ok (.bipush 12, 2) := by decide +kernel
theorem d_Md_more_118 : decode c_Md_more 118 = .ok (.if_icmp .ne 5, 3) := by decide +kernel
theorem d_Md_more_121 : decode c_Md_more 121 = .ok (.iconst 0, 1) := by decide +kernel
theorem d_Md_more_122 : decode c_Md_more 122 = .ok (.ireturn, 1) := by decide +kernel
theorem d_Md_more_123 : decode c_Md_more 123 = .ok (.aload_n 0, 1) := by decide +kernel
theorem d_Md_more_124 : decode c_Md_more 124 = .ok (.getfield 26, 3) := by decide +kernel
theorem d_Md_more_127 : decode c_Md_more 127 = .ok (.iload_n 1, 1) := by decide +kernel
theorem d_Md_more_128 : decode c_Md_more 128 = .ok (.iaload, 1) := by decide +kernel
theorem d_Md_more_129 : decode c_Md_more 129 = .ok (.istore 4, 2) := by decide +kernel
theorem d_Md_more_131 : decode c_Md_more 131 = .ok (.aload_n 0, 1) := by decide +kernel
theorem d_Md_more_132 : decode c_Md_more 132 = .ok (.getfield 20, 3) := by decide +kernel
theorem d_Md_more_135 : decode c_Md_more 135 = .ok (.iload_n 1, 1) := by decide +kernel
theorem d_Md_more_136 : decode c_Md_more 136 = .ok (.iaload, 1) := by decide +kernel
theorem d_Md_more_137 : decode c_Md_more 137 = .ok (.invokestatic 168, 3) := by decide +kernel
theorem d_Md_more_140 : decode c_Md_more 140 = .ok (.ifCond .eq 80, 3) := by decide +kernel
theorem d_Md_more_143 : decode c_Md_more 143 = .ok (.aload_n 0, 1) := by decide +kernel
theorem d_Md_more_144 : decode c_Md_more 144 = .ok (.getfield 32, 3) := by decide +kernel
theorem d_Md_more_147 : decode c_Md_more 147 = .ok (.iload_n 1, 1) := by decide +kernel
theorem d_Md_more_148 : decode c_Md_more 148 = .ok (.baload, 1) := by decide +kernel
theorem d_Md_more_149 : decode c_Md_more 149 = .ok (.ifCond .eq 71, 3) := by decide +kernel
theorem d_Md_more_152 : decode c_Md_more 152 = .ok (.aload_n 0, 1) := by decide +kernel
theorem d_Md_more_153 : decode c_Md_more 153 = .ok (.getfield 32, 3) := by decide +kernel
theorem d_Md_more_156 : decode c_Md_more 156 = .ok (.iload_n 2, 1) := by decide +kernel
theorem d_Md_more_157 : decode c_Md_more 157 = .ok (.baload, 1) := by decide +kernel
theorem d_Md_more_158 : decode c_Md_more 158 = .ok (.ifCond .eq 62, 3) := by decide +kernel
theorem d_Md_more_161 : decode c_Md_more 161 = .ok (.iload 4, 2) := by decide +kernel
theorem d_Md_more_163 : decode c_Md_more 163 = .ok (.ifCond .le 57, 3) := by decide +kernel
theorem d_Md_more_166 : decode c_Md_more 166 = .ok (.aload_n 0, 1) := by decide +kernel
theorem d_Md_more_167 : decode c_Md_more 167 = .ok (.aload_n 0, 1) := by decide +kernel
theorem d_Md_more_168 : decode c_Md_more 168 = .ok (.getfield 29, 3) := by decide +kernel
theorem d_Md_more_171 : decode c_Md_more 171 = .ok (.bipush 12, 2) := by decide +kernel
theorem d_Md_more_173 : decode c_Md_more 173 = .ok (.iload_n 1, 1) := by decide +kernel
theorem d_Md_more_174 : decode c_Md_more 174 = .ok (.imul, 1) := by decide +kernel
theorem d_Md_more_175 : decode c_Md_more 175 = .ok (.iload 4, 2) := by decide +kernel
theorem d_Md_more_177 : decode c_Md_more 177 = .ok (.iadd, 1) := by decide +kernel
theorem d_Md_more_178 : decode c_Md_more 178 = .ok (.iconst 1, 1) := by decide +kernel
theorem d_Md_more_179 : decode c_Md_more 179 = .ok (.isub, 1) := by decide +kernel
theorem d_Md_more_180 : decode c_Md_more 180 = .ok (.iaload, 1) := by decide +kernel
theorem d_Md_more_181 : decode c_Md_more 181 = .ok (.iload_n 2, 1) := by decide +kernel
theorem d_Md_more_182 : decode c_Md_more 182 = .ok (.invokevirtual 149, 3) := by decide +kernel
theorem d_Md_more_185 : decode c_Md_more 185 = .ok (.ifCond .le 35, 3) := by decide +kernel
theorem d_Md_more_188 : decode c_Md_more 188 = .ok (.aload_n 0, 1) := by decide +kernel
theorem d_Md_more_189 : decode c_Md_more 189 = .ok (.getfield 29, 3) := by decide +kernel
theorem d_Md_more_192 : decode c_Md_more 192 = .ok (.bipush 12, 2) := by decide +kernel
theorem d_Md_more_194 : decode c_Md_more 194 = .ok (.iload_n 1, 1) := by decide +kernel
theorem d_Md_more_195 : decode c_Md_more 195 = .ok (.imul, 1) := by decide +kernel
theorem d_Md_more_196 : decode c_Md_more 196 = .ok (.iload 4, 2) := by decide +kernel
theorem d_Md_more_198 : decode c_Md_more 198 = .ok (.iadd, 1) := by decide +kernel
theorem d_Md_more_199 : decode c_Md_more 199 = .ok (.aload_n 0, 1) := by decide +kernel
theorem d_Md_more_200 : decode c_Md_more 200 = .ok (.getfield 29, 3) := by decide +kernel
theorem d_Md_more_203 : decode c_Md_more 203 = .ok (.bipush 12, 2) := by decide +kernel
theorem d_Md_more_205 : decode c_Md_more 205 = .ok (.iload_n 1, 1) := by decide +kernel
theorem d_Md_more_206 : decode c_Md_more 206 = .ok (.imul, 1) := by decide +kernel
theorem d_Md_more_207 : decode c_Md_more 207 = .ok (.iload 4, 2) := by decide +kernel
theorem d_Md_more_209 : decode c_Md_more 209 = .ok (.iadd, 1) := by decide +kernel
theorem d_Md_more_210 : decode c_Md_more 210 = .ok (.iconst 1, 1) := by decide +kernel
theorem d_Md_more_211 : decode c_Md_more 211 = .ok (.isub, 1) := by decide +kernel
theorem d_Md_more_212 : decode c_Md_more 212 = .ok (.iaload, 1) := by decide +kernel
theorem d_Md_more_213 : decode c_Md_more 213 = .ok (.iastore, 1) := by decide +kernel
theorem d_Md_more_214 : decode c_Md_more 214 = .ok (.iinc 4 (-1), 3) := by decide +kernel
theorem d_Md_more_217 : decode c_Md_more 217 = .ok (.goto (-56), 3) := by decide +kernel
theorem d_Md_more_220 : decode c_Md_more 220 = .ok (.aload_n 0, 1) := by decide +kernel
theorem d_Md_more_221 : decode c_Md_more 221 = .ok (.getfield 29, 3) := by decide +kernel
theorem d_Md_more_224 : decode c_Md_more 224 = .ok (.bipush 12, 2) := by decide +kernel
theorem d_Md_more_226 : decode c_Md_more 226 = .ok (.iload_n 1, 1) := by decide +kernel
theorem d_Md_more_227 : decode c_Md_more 227 = .ok (.imul, 1) := by decide +kernel
theorem d_Md_more_228 : decode c_Md_more 228 = .ok (.iload 4, 2) := by decide +kernel
theorem d_Md_more_230 : decode c_Md_more 230 = .ok (.iadd, 1) := by decide +kernel
theorem d_Md_more_231 : decode c_Md_more 231 = .ok (.iload_n 2, 1) := by decide +kernel
theorem d_Md_more_232 : decode c_Md_more 232 = .ok (.iastore, 1) := by decide +kernel
theorem d_Md_more_233 : decode c_Md_more 233 = .ok (.aload_n 0, 1) := by decide +kernel
theorem d_Md_more_234 : decode c_Md_more 234 = .ok (.getfield 26, 3) := by decide +kernel
theorem d_Md_more_237 : decode c_Md_more 237 = .ok (.iload_n 1, 1) := by decide +kernel
theorem d_Md_more_238 : decode c_Md_more 238 = .ok (.aload_n 0, 1) := by decide +kernel
theorem d_Md_more_239 : decode c_Md_more 239 = .ok (.getfield 26, 3) := by decide +kernel
theorem d_Md_more_242 : decode c_Md_more 242 = .ok (.iload_n 1, 1) := by decide +kernel
theorem d_Md_more_243 : decode c_Md_more 243 = .ok (.iaload, 1) := by decide +kernel
theorem d_Md_more_244 : decode c_Md_more 244 = .ok (.iconst 1, 1) := by decide +kernel
theorem d_Md_more_245 : decode c_Md_more 245 = .ok (.iadd, 1) := by decide +kernel
theorem d_Md_more_246 : decode c_Md_more 246 = .ok (.iastore, 1) := by decide +kernel
theorem d_Md_more_247 : decode c_Md_more 247 = .ok (.aload_n 0, 1) := by decide +kernel
theorem d_Md_more_248 : decode c_Md_more 248 = .ok (.getfield 32, 3) := by decide +kernel
theorem d_Md_more_251 : decode c_Md_more 251 = .ok (.iload_n 1, 1) := by decide +kernel
theorem d_Md_more_252 : decode c_Md_more 252 = .ok (.aload_n 0, 1) := by decide +kernel
theorem d_Md_more_253 : decode c_Md_more 253 = .ok (.getfield 32, 3) := by decide +kernel
theorem d_Md_more_256 : decode c_Md_more 256 = .ok (.iload_n 1, 1) := by decide +kernel
theorem d_Md_more_257 : decode c_Md_more 257 = .ok (.baload, 1) := by decide +kernel
theorem d_Md_more_258 : decode c_Md_more 258 = .ok (.ifCond .eq 16, 3) := by decide +kernel
theorem d_Md_more_261 : decode c_Md_more 261 = .ok (.aload_n 0, 1) := by decide +kernel
theorem d_Md_more_262 : decode c_Md_more 262 = .ok (.getfield 32, 3) := by decide +kernel
theorem d_Md_more_265 : decode c_Md_more 265 = .ok (.iload_n 2, 1) := by decide +kernel
theorem d_Md_more_266 : decode c_Md_more 266 = .ok (.baload, 1) := by decide +kernel
theorem d_Md_more_267 : decode c_Md_more 267 = .ok (.ifCond .eq 7, 3) := by decide +kernel
theorem d_Md_more_270 : decode c_Md_more 270 = .ok (.iconst 1, 1) := by decide +kernel
theorem d_Md_more_271 : decode c_Md_more 271 = .ok (.goto 4, 3) := by decide +kernel
theorem d_Md_more_274 : decode c_Md_more 274 = .ok (.iconst 0, 1) := by decide +kernel
theorem d_Md_more_275 : decode c_Md_more 275 = .ok (.bastore, 1) := by decide +kernel
theorem d_Md_more_276 : decode c_Md_more 276 = .ok (.aload_n 0, 1) := by decide +kernel
theorem d_Md_more_277 : decode c_Md_more 277 = .ok (.getfield 42, 3) := by decide +kernel
theorem d_Md_more_280 : decode c_Md_more 280 = .ok (.iload_n 1, 1) := by decide +kernel
theorem d_Md_more_281 : decode c_Md_more 281 = .ok (.aload_n 0, 1) := by decide +kernel
theorem d_Md_more_282 : decode c_Md_more 282 = .ok (.getfield 42, 3) := by decide +kernel
theorem d_Md_more_285 : decode c_Md_more 285 = .ok (.iload_n 1, 1) := by decide +kernel
theorem d_Md_more_286 : decode c_Md_more 286 = .ok (.iaload, 1) := by decide +kernel
theorem d_Md_more_287 : decode c_Md_more 287 = .ok (.aload_n 0, 1) := by decide +kernel
theorem d_Md_more_288 : decode c_Md_more 288 = .ok (.getfield 42, 3) := by decide +kernel
theorem d_Md_more_291 : decode c_Md_more 291 = .ok (.iload_n 2, 1) := by decide +kernel
theorem d_Md_more_292 : decode c_Md_more 292 = .ok (.iaload, 1) := by decide +kernel
theorem d_Md_more_293 : decode c_Md_more 293 = .ok (.iadd, 1) := by decide +kernel
theorem d_Md_more_294 : decode c_Md_more 294 = .ok (.iastore, 1) := by decide +kernel
theorem d_Md_more_295 : decode c_Md_more 295 = .ok (.aload_n 0, 1) := by decide +kernel
theorem d_Md_more_296 : decode c_Md_more 296 = .ok (.getfield 39, 3) := by decide +kernel
theorem d_Md_more_299 : decode c_Md_more 299 = .ok (.iload_n 2, 1) := by decide +kernel
theorem d_Md_more_300 : decode c_Md_more 300 = .ok (.iaload, 1) := by decide +kernel
theorem d_Md_more_301 : decode c_Md_more 301 = .ok (.iconst 1, 1) := by decide +kernel
theorem d_Md_more_302 : decode c_Md_more 302 = .ok (.iadd, 1) := by decide +kernel
theorem d_Md_more_303 : decode c_Md_more 303 = .ok (.aload_n 0, 1) := by decide +kernel
theorem d_Md_more_304 : decode c_Md_more 304 = .ok (.getfield 39, 3) := by decide +kernel
theorem d_Md_more_307 : decode c_Md_more 307 = .ok (.iload_n 1, 1) := by decide +kernel
theorem d_Md_more_308 : decode c_Md_more 308 = .ok (.iaload, 1) := by decide +kernel
theorem d_Md_more_309 : decode c_Md_more 309 = .ok (.if_icmp .le 17, 3) := by decide +kernel
theorem d_Md_more_312 : decode c_Md_more 312 = .ok (.aload_n 0, 1) := by decide +kernel
theorem d_Md_more_313 : decode c_Md_more 313 = .ok (.getfield 39, 3) := by decide +kernel
theorem d_Md_more_316 : decode c_Md_more 316 = .ok (.iload_n 1, 1) := by decide +kernel
theorem d_Md_more_317 : decode c_Md_more 317 = .ok (.aload_n 0, 1) := by decide +kernel
theorem d_Md_more_318 : decode c_Md_more 318 = .ok (.getfield 39, 3) := by decide +kernel
theorem d_Md_more_321 : decode c_Md_more 321 = .ok (.iload_n 2, 1) := by decide +kernel
theorem d_Md_more_322 : decode c_Md_more 322 = .ok (.iaload, 1) := by decide +kernel
theorem d_Md_more_323 : decode c_Md_more 323 = .ok (.iconst 1, 1) := by decide +kernel
theorem d_Md_more_324 : decode c_Md_more 324 = .ok (.iadd, 1) := by decide +kernel
theorem d_Md_more_325 : decode c_Md_more 325 = .ok (.iastore, 1) := by decide +kernel
theorem d_Md_more_326 : decode c_Md_more 326 = .ok (.aload_n 0, 1) := by decide +kernel
theorem d_Md_more_327 : decode c_Md_more 327 = .ok (.getfield 36, 3) := by decide +kernel
theorem d_Md_more_330 : decode c_Md_more 330 = .ok (.iload_n 2, 1) := by decide +kernel
theorem d_Md_more_331 : decode c_Md_more 331 = .ok (.iconst 1, 1) := by decide +kernel
theorem d_Md_more_332 : decode c_Md_more 332 = .ok (.bastore, 1) := by decide +kernel
theorem d_Md_more_333 : decode c_Md_more 333 = .ok (.iconst 1, 1) := by decide +kernel
theorem d_Md_more_334 : decode c_Md_more 334 = .ok (.ireturn, 1) := by decide +kernel
theorem d_Md_test_0 : decode c_Md_test 0 = .ok (.aload_n 0, 1) := by decide +kernel
theorem d_Md_test_1 : decode c_Md_test 1 = .ok (.aload_n 0, 1) := by decide +kernel
theorem d_Md_test_2 : decode c_Md_test 2 = .ok (.iload_n 1, 1) := by decide +kernel
theorem d_Md_test_3 : decode c_Md_test 3 = .ok (.invokevirtual 207, 3) := by decide +kernel
theorem d_Md_test_6 : decode c_Md_test 6 = .ok (.ifCond .eq 7, 3) := by decide +kernel
theorem d_Md_test_9 : decode c_Md_test 9 = .ok (.iconst 1, 1) := by decide +kernel
theorem d_Md_test_10 : decode c_Md_test 10 = .ok (.goto 27, 3) := by decide +kernel
theorem d_Md_test_13 : decode c_Md_test 13 = .ok (.aload_n 0, 1) := by decide +kernel
theorem d_Md_test_14 : decode c_Md_test 14 = .ok (.getfield 16, 3) := by decide +kernel
theorem d_Md_test_17 : decode c_Md_test 17 = .ok (.iload_n 1, 1) := by decide +kernel
theorem d_Md_test_18 : decode c_Md_test 18 = .ok (.iaload, 1) := by decide +kernel
theorem d_Md_test_19 : decode c_Md_test 19 = .ok (.iconst 2, 1) := by decide +kernel
theorem d_Md_test_20 : decode c_Md_test 20 = .ok (.if_icmp .ne 12, 3) := by decide +kernel
theorem d_Md_test_23 : decode c_Md_test 23 = .ok (.iload_n 2, 1) := by decide +kernel
theorem d_Md_test_24 : decode c_Md_test 24 = .ok (.ifCond .lt 8, 3) := by decide +kernel
theorem d_Md_test_27 : decode c_Md_test 27 = .ok (.iload_n 2, 1) := by decide +kernel
theorem d_Md_test_28 : decode c_Md_test 28 = .ok (.iconst 4, 1) := by decide +kernel
theorem d_Md_test_29 : decode c_Md_test 29 = .ok (.if_icmp .le 7, 3) := by decide +kernel
theorem d_Md_test_32 : decode c_Md_test 32 = .ok (.iconst 2, 1) := by decide +kernel
theorem d_Md_test_33 : decode c_Md_test 33 = .ok (.goto 4, 3) := by decide +kernel
theorem d_Md_test_36 : decode c_Md_test 36 = .ok (.iconst 0, 1) := by decide +kernel
theorem d_Md_test_37 : decode c_Md_test 37 = .ok (.putfield 7, 3) := by decide +kernel
theorem d_Md_test_40 : decode c_Md_test 40 = .ok (.aload_n 0, 1) := by decide +kernel
theorem d_Md_test_41 : decode c_Md_test 41 = .ok (.getfield 7, 3) := by decide +kernel
theorem d_Md_test_44 : decode c_Md_test 44 = .ok (.ifCond .ne 13, 3) := by decide +kernel
theorem d_Md_test_47 : decode c_Md_test 47 = .ok (.aload_n 0, 1) := by decide +kernel
theorem d_Md_test_48 : decode c_Md_test 48 = .ok (.getfield 45, 3) := by decide +kernel
theorem d_Md_test_51 : decode c_Md_test 51 = .ok (.iload_n 1, 1) := by decide +kernel
theorem d_Md_test_52 : decode c_Md_test 52 = .ok (.iaload, 1) := by decide +kernel
theorem d_Md_test_53 : decode c_Md_test 53 = .ok (.iconst 3, 1) := by decide +kernel
theorem d_Md_test_54 : decode c_Md_test 54 = .ok (.if_icmp .ne 5, 3) := by decide +kernel
theorem d_Md_test_57 : decode c_Md_test 57 = .ok (.iconst 0, 1) := by decide +kernel
theorem d_Md_test_58 : decode c_Md_test 58 = .ok (.ireturn, 1) := by decide +kernel
theorem d_Md_test_59 : decode c_Md_test 59 = .ok (.aload_n 0, 1) := by decide +kernel
theorem d_Md_test_60 : decode c_Md_test 60 = .ok (.getfield 48, 3) := by decide +kernel
theorem d_Md_test_63 : decode c_Md_test 63 = .ok (.iconst 3, 1) := by decide +kernel
theorem d_Md_test_64 : decode c_Md_test 64 = .ok (.iload_n 1, 1) := by decide +kernel
theorem d_Md_test_65 : decode c_Md_test 65 = .ok (.imul, 1) := by decide +kernel
theorem d_Md_test_66 : decode c_Md_test 66 = .ok (.aload_n 0, 1) := by decide +kernel
theorem d_Md_test_67 : decode c_Md_test 67 = .ok (.getfield 45, 3) := by decide +kernel
theorem d_Md_test_70 : decode c_Md_test 70 = .ok (.iload_n 1, 1) := by decide +kernel
theorem d_Md_test_71 : decode c_Md_test 71 = .ok (.iaload, 1) := by decide +kernel
theorem d_Md_test_72 : decode c_Md_test 72 = .ok (.iadd, 1) := by decide +kernel
theorem d_Md_test_73 : decode c_Md_test 73 = .ok (.iload_n 2, 1) := by decide +kernel
theorem d_Md_test_74 : decode c_Md_test 74 = .ok (.iastore, 1) := by decide +kernel
theorem d_Md_test_75 : decode c_Md_test 75 = .ok (.aload_n 0, 1) := by decide +kernel
theorem d_Md_test_76 : decode c_Md_test 76 = .ok (.getfield 51, 3) := by decide +kernel
theorem d_Md_test_79 : decode c_Md_test 79 = .ok (.iconst 3, 1) := by decide +kernel
theorem d_Md_test_80 : decode c_Md_test 80 = .ok (.iload_n 1, 1) := by decide +kernel
theorem d_Md_test_81 : decode c_Md_test 81 = .ok (.imul, 1) := by decide +kernel
theorem d_Md_test_82 : decode c_Md_test 82 = .ok (.aload_n 0, 1) := by decide +kernel
theorem d_Md_test_83 : decode c_Md_test 83 = .ok (.getfield 45, 3) := by decide +kernel
theorem d_Md_test_86 : decode c_Md_test 86 = .ok (.iload_n 1, 1) := by decide +kernel
theorem d_Md_test_87 : decode c_Md_test 87 = .ok (.iaload, 1) := by decide +kernel
theorem d_Md_test_88 : decode c_Md_test 88 = .ok (.iadd, 1) := by decide +kernel
theorem d_Md_test_89 : decode c_Md_test 89 = .ok (.iload_n 3, 1) := by decide +kernel
theorem d_Md_test_90 : decode c_Md_test 90 = .ok (.iastore, 1) := by decide +kernel
theorem d_Md_test_91 : decode c_Md_test 91 = .ok (.aload_n 0, 1) := by decide +kernel
theorem d_Md_test_92 : decode c_Md_test 92 = .ok (.getfield 45, 3) := by decide +kernel
theorem d_Md_test_95 : decode c_Md_test 95 = .ok (.iload_n 1, 1) := by decide +kernel
theorem d_Md_test_96 : decode c_Md_test 96 = .ok (.aload_n 0, 1) := by decide +kernel
theorem d_Md_test_97 : decode c_Md_test 97 = .ok (.getfield 45, 3) := by decide +kernel
theorem d_Md_test_100 : decode c_Md_test 100 = .ok (.iload_n 1, 1) := by decide +kernel
theorem d_Md_test_101 : decode c_Md_test 101 = .ok (.iaload, 1) := by decide +kernel
theorem d_Md_test_102 : decode c_Md_test 102 = .ok (.iconst 1, 1) := by decide +kernel
theorem d_Md_test_103 : decode c_Md_test 103 = .ok (.iadd, 1) := by decide +kernel
theorem d_Md_test_104 : decode c_Md_test 104 = .ok (.iastore, 1) := by decide +kernel
theorem d_Md_test_105 : decode c_Md_test 105 = .ok (.iconst 1, 1) := by decide +kernel
theorem d_Md_test_106 : decode c_Md_test 106 = .ok (.ireturn, 1) := by decide +kernel
theorem d_Md_match_0 : decode c_Md_match 0 = .ok (.aload_n 0, 1) := by decide +kernel
theorem d_Md_match_1 : decode c_Md_match 1 = .ok (.aload_n 0, 1) := by decide +kernel
theorem d_Md_match_2 : decode c_Md_match 2 = .ok (.iload_n 1, 1) := by decide +kernel
theorem d_Md_match_3 : decode c_Md_match 3 = .ok (.invokevirtual 207, 3) := by decide +kernel
theorem d_Md_match_6 : decode c_Md_match 6 = .ok (.ifCond .ne 11, 3) := by decide +kernel
theorem d_Md_match_9 : decode c_Md_match 9 = .ok (.aload_n 0, 1) := by decide +kernel
theorem d_Md_match_10 : decode c_Md_match 10 = .ok (.iload_n 2, 1) := by decide +kernel
theorem d_Md_match_11 : decode c_Md_match 11 = .ok (.invokevirtual 207, 3) := by decide +kernel
theorem d_Md_match_14 : decode c_Md_match 14 = .ok (.ifCond .eq 7, 3) := by decide +kernel
theorem d_Md_match_17 : decode c_Md_match 17 = .ok (.iconst 1, 1) := by decide +kernel
theorem d_Md_match_18 : decode c_Md_match 18 = .ok (.goto 28, 3) := by decide +kernel
theorem d_Md_match_21 : decode c_Md_match 21 = .ok (.aload_n 0, 1) := by decide +kernel
theorem d_Md_match_22 : decode c_Md_match 22 = .ok (.getfield 32, 3) := by decide +kernel
theorem d_Md_match_25 : decode c_Md_match 25 = .ok (.iload_n 2, 1) := by decide +kernel
theorem d_Md_match_26 : decode c_Md_match 26 = .ok (.baload, 1) := by decide +kernel
theorem d_Md_match_27 : decode c_Md_match 27 = .ok (.ifCond .eq 14, 3) := by decide +kernel
theorem d_Md_match_30 : decode c_Md_match 30 = .ok (.iload_n 3, 1) := by decide +kernel
theorem d_Md_match_31 : decode c_Md_match 31 = .ok (.ifCond .lt 10, 3) := by decide +kernel
theorem d_Md_match_34 : decode c_Md_match 34 = .ok (.iload_n 3, 1) := by decide +kernel
theorem d_Md_match_35 : decode c_Md_match 35 = .ok (.sipush 400, 3) := by decide +kernel
theorem d_Md_match_38 : decode c_Md_match 38 = .ok (.if_icmp .le 7, 3) := by decide +kernel
theorem d_Md_match_41 : decode c_Md_match 41 = .ok (.iconst 2, 1) := by decide +kernel
theorem d_Md_match_42 : decode c_Md_match 42 = .ok (.goto 4, 3) := by decide +kernel
theorem d_Md_match_45 : decode c_Md_match 45 = .ok (.iconst 0, 1) := by decide +kernel
theorem d_Md_match_46 : decode c_Md_match 46 = .ok (.putfield 7, 3) := by decide +kernel
theorem d_Md_match_49 : decode c_Md_match 49 = .ok (.aload_n 0, 1) := by decide +kernel
theorem d_Md_match_50 : decode c_Md_match 50 = .ok (.getfield 7, 3) := by decide +kernel
theorem d_Md_match_53 : decode c_Md_match 53 = .ok (.ifCond .eq 5, 3) := by decide +kernel
theorem d_Md_match_56 : decode c_Md_match 56 = .ok (.iconst 0, 1) := by decide +kernel
theorem d_Md_match_57 : decode c_Md_match 57 = .ok (.ireturn, 1) := by decide +kernel
theorem d_Md_match_58 : decode c_Md_match 58 = .ok (.aload_n 0, 1) := by decide +kernel
theorem d_Md_match_59 : decode c_Md_match 59 = .ok (.iload_n 1, 1) := by decide +kernel
theorem d_Md_match_60 : decode c_Md_match 60 = .ok (.iload_n 2, 1) := by decide +kernel
theorem d_Md_match_61 : decode c_Md_match 61 = .ok (.iload_n 3, 1) := by decide +kernel
theorem d_Md_match_62 : decode c_Md_match 62 = .ok (.invokevirtual 210, 3) := by decide +kernel
theorem d_Md_match_65 : decode c_Md_match 65 = .ok (.aload_n 0, 1) := by decide +kernel
theorem d_Md_match_66 : decode c_Md_match 66 = .ok (.getfield 96, 3) := by decide +kernel
theorem d_Md_match_69 : decode c_Md_match 69 = .ok (.ifCond .eq 7, 3) := by decide +kernel
theorem d_Md_match_72 : decode c_Md_match 72 = .ok (.iconst (-1), 1) := by decide +kernel
theorem d_Md_match_73 : decode c_Md_match 73 = .ok (.goto 7, 3) := by decide +kernel
theorem d_Md_match_76 : decode c_Md_match 76 = .ok (.aload_n 0, 1) := by decide +kernel
theorem d_Md_match_77 : decode c_Md_match 77 = .ok (.getfield 93, 3) := by decide +kernel
theorem d_Md_match_80 : decode c_Md_match 80 = .ok (.ireturn, 1) := by decide +kernel
theorem d_Md_tried_0 : decode c_Md_tried 0 = .ok (.aload_n 0, 1) := by decide +kernel
theorem d_Md_tried_1 : decode c_Md_tried 1 = .ok (.iconst 0, 1) := by decide +kernel
theorem d_Md_tried_2 : decode c_Md_tried 2 = .ok (.putfield 7, 3) := by decide +kernel
theorem d_Md_tried_5 : decode c_Md_tried 5 = .ok (.aload_n 0, 1) := by decide +kernel
theorem d_Md_tried_6 : decode c_Md_tried 6 = .ok (.getfield 87, 3) := by decide +kernel
theorem d_Md_tried_9 : decode c_Md_tried 9 = .ok (.ireturn, 1) := by decide +kernel
theorem d_Md_bound_0 : decode c_Md_bound 0 = .ok (.aload_n 0, 1) := by decide +kernel
theorem d_Md_bound_1 : decode c_Md_bound 1 = .ok (.iload_n 1, 1) := by decide +kernel
theorem d_Md_bound_2 : decode c_Md_bound 2 = .ok (.ifCond .lt 11, 3) := by decide +kernel
theorem d_Md_bound_5 : decode c_Md_bound 5 = .ok (.iload_n 1, 1) := by decide +kernel
theorem d_Md_bound_6 : decode c_Md_bound 6 = .ok (.aload_n 0, 1) := by decide +kernel
theorem d_Md_bound_7 : decode c_Md_bound 7 = .ok (.getfield 66, 3) := by decide +kernel
theorem d_Md_bound_10 : decode c_Md_bound 10 = .ok (.if_icmp .lt 7, 3) := by decide +kernel
theorem d_Md_bound_13 : decode c_Md_bound 13 = .ok (.iconst 1, 1) := by decide +kernel
theorem d_Md_bound_14 : decode c_Md_bound 14 = .ok (.goto 18, 3) := by decide +kernel
theorem d_Md_bound_17 : decode c_Md_bound 17 = .ok (.iload_n 2, 1) := by decide +kernel
theorem d_Md_bound_18 : decode c_Md_bound 18 = .ok (.ifCond .lt 9, 3) := by decide +kernel
theorem d_Md_bound_21 : decode c_Md_bound 21 = .ok (.iload_n 2, 1) := by decide +kernel
theorem d_Md_bound_22 : decode c_Md_bound 22 = .ok (.bipush 7, 2) := by decide +kernel
theorem d_Md_bound_24 : decode c_Md_bound 24 = .ok (.if_icmp .le 7, 3) := by decide +kernel
theorem d_Md_bound_27 : decode c_Md_bound 27 = .ok (.iconst 2, 1) := by decide +kernel
theorem d_Md_bound_28 : decode c_Md_bound 28 = .ok (.goto 4, 3) := by decide +kernel
theorem d_Md_bound_31 : decode c_Md_bound 31 = .ok (.iconst 0, 1) := by decide +kernel
theorem d_Md_bound_32 : decode c_Md_bound 32 = .ok (.putfield 7, 3) := by decide +kernel
theorem d_Md_bound_35 : decode c_Md_bound 35 = .ok (.aload_n 0, 1) := by decide +kernel
theorem d_Md_bound_36 : decode c_Md_bound 36 = .ok (.getfield 7, 3) := by decide +kernel
theorem d_Md_bound_39 : decode c_Md_bound 39 = .ok (.ifCond .eq 5, 3) := by decide +kernel
theorem d_Md_bound_42 : decode c_Md_bound 42 = .ok (.iconst 0, 1) := by decide +kernel
theorem d_Md_bound_43 : decode c_Md_bound 43 = .ok (.ireturn, 1) := by decide +kernel
theorem d_Md_bound_44 : decode c_Md_bound 44 = .ok (.iload_n 3, 1) := by decide +kernel
theorem d_Md_bound_45 : decode c_Md_bound 45 = .ok (.ifCond .lt 18, 3) := by decide +kernel
theorem d_Md_bound_48 : decode c_Md_bound 48 = .ok (.iload_n 3, 1) := by decide +kernel
theorem d_Md_bound_49 : decode c_Md_bound 49 = .ok (.aload_n 0, 1) := by decide +kernel
theorem d_Md_bound_50 : decode c_Md_bound 50 = .ok (.getfield 69, 3) := by decide +kernel
theorem d_Md_bound_53 : decode c_Md_bound 53 = .ok (.bipush 8, 2) := by decide +kernel
theorem d_Md_bound_55 : decode c_Md_bound 55 = .ok (.iload_n 1, 1) := by decide +kernel
theorem d_Md_bound_56 : decode c_Md_bound 56 = .ok (.imul, 1) := by decide +kernel
theorem d_Md_bound_57 : decode c_Md_bound 57 = .ok (.iload_n 2, 1) := by decide +kernel
theorem d_Md_bound_58 : decode c_Md_bound 58 = .ok (.iadd, 1) := by decide +kernel
theorem d_Md_bound_59 : decode c_Md_bound 59 = .ok (.iaload, 1) := by decide +kernel
theorem d_Md_bound_60 : decode c_Md_bound 60 = .ok (.if_icmp .lt 7, 3) := by decide +kernel
theorem d_Md_bound_63 : decode c_Md_bound 63 = .ok (.iconst (-1), 1) := by decide +kernel
theorem d_Md_bound_64 : decode c_Md_bound 64 = .ok (.goto 19, 3) := by decide +kernel
theorem d_Md_bound_67 : decode c_Md_bound 67 = .ok (.aload_n 0, 1) := by decide +kernel
theorem d_Md_bound_68 : decode c_Md_bound 68 = .ok (.getfield 72, 3) := by decide +kernel
theorem d_Md_bound_71 : decode c_Md_bound 71 = .ok (.bipush 96, 2) := by decide +kernel
theorem d_Md_bound_73 : decode c_Md_bound 73 = .ok (.iload_n 1, 1) := by decide +kernel
theorem d_Md_bound_74 : decode c_Md_bound 74 = .ok (.imul, 1) := by decide +kernel
theorem d_Md_bound_75 : decode c_Md_bound 75 = .ok (.bipush 12, 2) := by decide +kernel
theorem d_Md_bound_77 : decode c_Md_bound 77 = .ok (.iload_n 2, 1) := by decide +kernel
theorem d_Md_bound_78 : decode c_Md_bound 78 = .ok (.imul, 1) := by decide +kernel
theorem d_Md_bound_79 : decode c_Md_bound 79 = .ok (.iadd, 1) := by decide +kernel
theorem d_Md_bound_80 : decode c_Md_bound 80 = .ok (.iload_n 3, 1) := by decide +kernel
theorem d_Md_bound_81 : decode c_Md_bound 81 = .ok (.iadd, 1) := by decide +kernel
theorem d_Md_bound_82 : decode c_Md_bound 82 = .ok (.iaload, 1) := by decide +kernel
theorem d_Md_bound_83 : decode c_Md_bound 83 = .ok (.ireturn, 1) := by decide +kernel
theorem d_Md_many_0 : decode c_Md_many 0 = .ok (.aload_n 0, 1) := by decide +kernel
theorem d_Md_many_1 : decode c_Md_many 1 = .ok (.iload_n 1, 1) := by decide +kernel
theorem d_Md_many_2 : decode c_Md_many 2 = .ok (.ifCond .lt 11, 3) := by decide +kernel
theorem d_Md_many_5 : decode c_Md_many 5 = .ok (.iload_n 1, 1) := by decide +kernel
theorem d_Md_many_6 : decode c_Md_many 6 = .ok (.aload_n 0, 1) := by decide +kernel
theorem d_Md_many_7 : decode c_Md_many 7 = .ok (.getfield 66, 3) := by decide +kernel
theorem d_Md_many_10 : decode c_Md_many 10 = .ok (.if_icmp .lt 7, 3) := by decide +kernel
theorem d_Md_many_13 : decode c_Md_many 13 = .ok (.iconst 1, 1) := by decide +kernel
theorem d_Md_many_14 : decode c_Md_many 14 = .ok (.goto 18, 3) := by decide +kernel
theorem d_Md_many_17 : decode c_Md_many 17 = .ok (.iload_n 2, 1) := by decide +kernel
theorem d_Md_many_18 : decode c_Md_many 18 = .ok (.ifCond .lt 9, 3) := by decide +kernel
theorem d_Md_many_21 : decode c_Md_many 21 = .ok (.iload_n 2, 1) := by decide +kernel
theorem d_Md_many_22 : decode c_Md_many 22 = .ok (.bipush 7, 2) := by decide +kernel
theorem d_Md_many_24 : decode c_Md_many 24 = .ok (.if_icmp .le 7, 3) := by decide +kernel
theorem d_Md_many_27 : decode c_Md_many 27 = .ok (.iconst 2, 1) := by decide +kernel
theorem d_Md_many_28 : decode c_Md_many 28 = .ok (.goto 4, 3) := by decide +kernel
theorem d_Md_many_31 : decode c_Md_many 31 = .ok (.iconst 0, 1) := by decide +kernel
theorem d_Md_many_32 : decode c_Md_many 32 = .ok (.putfield 7, 3) := by decide +kernel
theorem d_Md_many_35 : decode c_Md_many 35 = .ok (.aload_n 0, 1) := by decide +kernel
theorem d_Md_many_36 : decode c_Md_many 36 = .ok (.getfield 7, 3) := by decide +kernel
theorem d_Md_many_39 : decode c_Md_many 39 = .ok (.ifCond .eq 7, 3) := by decide +kernel
theorem d_Md_many_42 : decode c_Md_many 42 = .ok (.iconst 0, 1) := by decide +kernel
theorem d_Md_many_43 : decode c_Md_many 43 = .ok (.goto 14, 3) := by decide +kernel
theorem d_Md_many_46 : decode c_Md_many 46 = .ok (.aload_n 0, 1) := by decide +kernel
theorem d_Md_many_47 : decode c_Md_many 47 = .ok (.getfield 69, 3) := by decide +kernel
theorem d_Md_many_50 : decode c_Md_many 50 = .ok (.bipush 8, 2) := by decide +kernel
theorem d_Md_many_52 : decode c_Md_many 52 = .ok (.iload_n 1, 1) := by decide +kernel
theorem d_Md_many_53 : decode c_Md_many 53 = .ok (.imul, 1) := by decide +kernel
theorem d_Md_many_54 : decode c_Md_many 54 = .ok (.iload_n 2, 1) := by decide +kernel
theorem d_Md_many_55 : decode c_Md_many 55 = .ok (.iadd, 1) := by decide +kernel
theorem d_Md_many_56 : decode c_Md_many 56 = .ok (.iaload, 1) := by decide +kernel
theorem d_Md_many_57 : decode c_Md_many 57 = .ok (.ireturn, 1) := by decide +kernel
theorem d_Md_rule_0 : decode c_Md_rule 0 = .ok (.aload_n 0, 1) := by decide +kernel
theorem d_Md_rule_1 : decode c_Md_rule 1 = .ok (.aload_n 0, 1) := by decide +kernel
theorem d_Md_rule_2 : decode c_Md_rule 2 = .ok (.iload_n 1, 1) := by decide +kernel
theorem d_Md_rule_3 : decode c_Md_rule 3 = .ok (.invokevirtual 207, 3) := by decide +kernel
theorem d_Md_rule_6 : decode c_Md_rule 6 = .ok (.ifCond .eq 7, 3) := by decide +kernel
theorem d_Md_rule_9 : decode c_Md_rule 9 = .ok (.iconst 1, 1) := by decide +kernel
theorem d_Md_rule_10 : decode c_Md_rule 10 = .ok (.goto 17, 3) := by decide +kernel
theorem d_Md_rule_13 : decode c_Md_rule 13 = .ok (.aload_n 0, 1) := by decide +kernel
theorem d_Md_rule_14 : decode c_Md_rule 14 = .ok (.getfield 54, 3) := by decide +kernel
theorem d_Md_rule_17 : decode c_Md_rule 17 = .ok (.bipush 30, 2) := by decide +kernel
theorem d_Md_rule_19 : decode c_Md_rule 19 = .ok (.if_icmp .ne 7, 3) := by decide +kernel
theorem d_Md_rule_22 : decode c_Md_rule 22 = .ok (.iconst 2, 1) := by decide +kernel
theorem d_Md_rule_23 : decode c_Md_rule 23 = .ok (.goto 4, 3) := by decide +kernel
theorem d_Md_rule_26 : decode c_Md_rule 26 = .ok (.iconst 0, 1) := by decide +kernel
theorem d_Md_rule_27 : decode c_Md_rule 27 = .ok (.putfield 7, 3) := by decide +kernel
theorem d_Md_rule_30 : decode c_Md_rule 30 = .ok (.aload_n 0, 1) := by decide +kernel
theorem d_Md_rule_31 : decode c_Md_rule 31 = .ok (.getfield 7, 3) := by decide +kernel
theorem d_Md_rule_34 : decode c_Md_rule 34 = .ok (.ifCond .eq 5, 3) := by decide +kernel
theorem d_Md_rule_37 : decode c_Md_rule 37 = .ok (.iconst 0, 1) := by decide +kernel
theorem d_Md_rule_38 : decode c_Md_rule 38 = .ok (.ireturn, 1) := by decide +kernel
theorem d_Md_rule_39 : decode c_Md_rule 39 = .ok (.aload_n 0, 1) := by decide +kernel
theorem d_Md_rule_40 : decode c_Md_rule 40 = .ok (.getfield 57, 3) := by decide +kernel
theorem d_Md_rule_43 : decode c_Md_rule 43 = .ok (.aload_n 0, 1) := by decide +kernel
theorem d_Md_rule_44 : decode c_Md_rule 44 = .ok (.getfield 54, 3) := by decide +kernel
theorem d_Md_rule_47 : decode c_Md_rule 47 = .ok (.iload_n 1, 1) := by decide +kernel
theorem d_Md_rule_48 : decode c_Md_rule 48 = .ok (.iastore, 1) := by decide +kernel
theorem d_Md_rule_49 : decode c_Md_rule 49 = .ok (.aload_n 0, 1) := by decide +kernel
theorem d_Md_rule_50 : decode c_Md_rule 50 = .ok (.getfield 36, 3) := by decide +kernel
theorem d_Md_rule_53 : decode c_Md_rule 53 = .ok (.iload_n 1, 1) := by decide +kernel
theorem d_Md_rule_54 : decode c_Md_rule 54 = .ok (.iconst 1, 1) := by decide +kernel
theorem d_Md_rule_55 : decode c_Md_rule 55 = .ok (.bastore, 1) := by decide +kernel
theorem d_Md_rule_56 : decode c_Md_rule 56 = .ok (.aload_n 0, 1) := by decide +kernel
theorem d_Md_rule_57 : decode c_Md_rule 57 = .ok (.dup, 1) := by decide +kernel
theorem d_Md_rule_58 : decode c_Md_rule 58 = .ok (.getfield 54, 3) := by decide +kernel
theorem d_Md_rule_61 : decode c_Md_rule 61 = .ok (.iconst 1, 1) := by decide +kernel
theorem d_Md_rule_62 : decode c_Md_rule 62 = .ok (.iadd, 1) := by decide +kernel
theorem d_Md_rule_63 : decode c_Md_rule 63 = .ok (.putfield 54, 3) := by decide +kernel
theorem d_Md_rule_66 : decode c_Md_rule 66 = .ok (.aload_n 0, 1) := by decide +kernel
theorem d_Md_rule_67 : decode c_Md_rule 67 = .ok (.getfield 54, 3) := by decide +kernel
theorem d_Md_rule_70 : decode c_Md_rule 70 = .ok (.iconst 1, 1) := by decide +kernel
theorem d_Md_rule_71 : decode c_Md_rule 71 = .ok (.isub, 1) := by decide +kernel
theorem d_Md_rule_72 : decode c_Md_rule 72 = .ok (.ireturn, 1) := by decide +kernel
theorem d_Md_net_0 : decode c_Md_net 0 = .ok (.aload_n 0, 1) := by decide +kernel
theorem d_Md_net_1 : decode c_Md_net 1 = .ok (.aload_n 0, 1) := by decide +kernel
theorem d_Md_net_2 : decode c_Md_net 2 = .ok (.iload_n 1, 1) := by decide +kernel
theorem d_Md_net_3 : decode c_Md_net 3 = .ok (.invokevirtual 207, 3) := by decide +kernel
theorem d_Md_net_6 : decode c_Md_net 6 = .ok (.ifCond .eq 7, 3) := by decide +kernel
theorem d_Md_net_9 : decode c_Md_net 9 = .ok (.iconst 1, 1) := by decide +kernel
theorem d_Md_net_10 : decode c_Md_net 10 = .ok (.goto 17, 3) := by decide +kernel
theorem d_Md_net_13 : decode c_Md_net 13 = .ok (.aload_n 0, 1) := by decide +kernel
theorem d_Md_net_14 : decode c_Md_net 14 = .ok (.getfield 32, 3) := by decide +kernel
theorem d_Md_net_17 : decode c_Md_net 17 = .ok (.iload_n 1, 1) := by decide +kernel
theorem d_Md_net_18 : decode c_Md_net 18 = .ok (.baload, 1) := by decide +kernel
theorem d_Md_net_19 : decode c_Md_net 19 = .ok (.ifCond .ne 7, 3) := by decide +kernel
theorem d_Md_net_22 : decode c_Md_net 22 = .ok (.iconst 2, 1) := by decide +kernel
theorem d_Md_net_23 : decode c_Md_net 23 = .ok (.goto 4, 3) := by decide +kernel
theorem d_Md_net_26 : decode c_Md_net 26 = .ok (.iconst 0, 1) := by decide +kernel
theorem d_Md_net_27 : decode c_Md_net 27 = .ok (.putfield 7, 3) := by decide +kernel
theorem d_Md_net_30 : decode c_Md_net 30 = .ok (.aload_n 0, 1) := by decide +kernel
theorem d_Md_net_31 : decode c_Md_net 31 = .ok (.getfield 7, 3) := by decide +kernel
theorem d_Md_net_34 : decode c_Md_net 34 = .ok (.ifCond .eq 5, 3) := by decide +kernel
theorem d_Md_net_37 : decode c_Md_net 37 = .ok (.iconst 0, 1) := by decide +kernel
theorem d_Md_net_38 : decode c_Md_net 38 = .ok (.ireturn, 1) := by decide +kernel
theorem d_Md_net_39 : decode c_Md_net 39 = .ok (.aload_n 0, 1) := by decide +kernel
theorem d_Md_net_40 : decode c_Md_net 40 = .ok (.iconst 0, 1) := by decide +kernel
theorem d_Md_net_41 : decode c_Md_net 41 = .ok (.putfield 60, 3) := by decide +kernel
theorem d_Md_net_44 : decode c_Md_net 44 = .ok (.iconst 0, 1) := by decide +kernel
theorem d_Md_net_45 : decode c_Md_net 45 = .ok (.istore_n 2, 1) := by decide +kernel
theorem d_Md_net_46 : decode c_Md_net 46 = .ok (.iload_n 2, 1) := by decide +kernel
theorem d_Md_net_47 : decode c_Md_net 47 = .ok (.aload_n 0, 1) := by decide +kernel
theorem d_Md_net_48 : decode c_Md_net 48 = .ok (.getfield 54, 3) := by decide +kernel
theorem d_Md_net_51 : decode c_Md_net 51 = .ok (.if_icmp .ge 38, 3) := by decide +kernel
theorem d_Md_net_54 : decode c_Md_net 54 = .ok (.aload_n 0, 1) := by decide +kernel
theorem d_Md_net_55 : decode c_Md_net 55 = .ok (.iload_n 2, 1) := by decide +kernel
theorem d_Md_net_56 : decode c_Md_net 56 = .ok (.iload_n 1, 1) := by decide +kernel
theorem d_Md_net_57 : decode c_Md_net 57 = .ok (.invokevirtual 214, 3) := by decide +kernel
theorem d_Md_net_60 : decode c_Md_net 60 = .ok (.ifCond .eq 23, 3) := by decide +kernel
theorem d_Md_net_63 : decode c_Md_net 63 = .ok (.aload_n 0, 1) := by decide +kernel
theorem d_Md_net_64 : decode c_Md_net 64 = .ok (.getfield 63, 3) := by decide +kernel
theorem d_Md_net_67 : decode c_Md_net 67 = .ok (.aload_n 0, 1) := by decide +kernel
theorem d_Md_net_68 : decode c_Md_net 68 = .ok (.getfield 60, 3) := by decide +kernel
theorem d_Md_net_71 : decode c_Md_net 71 = .ok (.iload_n 2, 1) := by decide +kernel
theorem d_Md_net_72 : decode c_Md_net 72 = .ok (.iastore, 1) := by decide +kernel
theorem d_Md_net_73 : decode c_Md_net 73 = .ok (.aload_n 0, 1) := by decide +kernel
theorem d_Md_net_74 : decode c_Md_net 74 = .ok (.dup, 1) := by decide +kernel
theorem d_Md_net_75 : decode c_Md_net 75 = .ok (.getfield 60, 3) := by decide +kernel
theorem d_Md_net_78 : decode c_Md_net 78 = .ok (.iconst 1, 1) := by decide +kernel
theorem d_Md_net_79 : decode c_Md_net 79 = .ok (.iadd, 1) := by decide +kernel
theorem d_Md_net_80 : decode c_Md_net 80 = .ok (.putfield 60, 3) := by decide +kernel
theorem d_Md_net_83 : decode c_Md_net 83 = .ok (.iinc 2 1, 3) := by decide +kernel
theorem d_Md_net_86 : decode c_Md_net 86 = .ok (.goto (-40), 3) := by decide +kernel
theorem d_Md_net_89 : decode c_Md_net 89 = .ok (.aload_n 0, 1) := by decide +kernel
theorem d_Md_net_90 : decode c_Md_net 90 = .ok (.getfield 60, 3) := by decide +kernel
theorem d_Md_net_93 : decode c_Md_net 93 = .ok (.ireturn, 1) := by decide +kernel
theorem d_Md_rules_0 : decode c_Md_rules 0 = .ok (.aload_n 0, 1) := by decide +kernel
theorem d_Md_rules_1 : decode c_Md_rules 1 = .ok (.iconst 0, 1) := by decide +kernel
theorem d_Md_rules_2 : decode c_Md_rules 2 = .ok (.putfield 7, 3) := by decide +kernel
theorem d_Md_rules_5 : decode c_Md_rules 5 = .ok (.iload_n 1, 1) := by decide +kernel
theorem d_Md_rules_6 : decode c_Md_rules 6 = .ok (.ifCond .lt 11, 3) := by decide +kernel
theorem d_Md_rules_9 : decode c_Md_rules 9 = .ok (.iload_n 1, 1) := by decide +kernel
theorem d_Md_rules_10 : decode c_Md_rules 10 = .ok (.aload_n 0, 1) := by decide +kernel
theorem d_Md_rules_11 : decode c_Md_rules 11 = .ok (.getfield 60, 3) := by decide +kernel
theorem d_Md_rules_14 : decode c_Md_rules 14 = .ok (.if_icmp .lt 7, 3) := by decide +kernel
theorem d_Md_rules_17 : decode c_Md_rules 17 = .ok (.iconst (-1), 1) := by decide +kernel
theorem d_Md_rules_18 : decode c_Md_rules 18 = .ok (.goto 9, 3) := by decide +kernel
theorem d_Md_rules_21 : decode c_Md_rules 21 = .ok (.aload_n 0, 1) := by decide +kernel
theorem d_Md_rules_22 : decode c_Md_rules 22 = .ok (.getfield 63, 3) := by decide +kernel
theorem d_Md_rules_25 : decode c_Md_rules 25 = .ok (.iload_n 1, 1) := by decide +kernel
theorem d_Md_rules_26 : decode c_Md_rules 26 = .ok (.iaload, 1) := by decide +kernel
theorem d_Md_rules_27 : decode c_Md_rules 27 = .ok (.ireturn, 1) := by decide +kernel
theorem d_Md_first_0 : decode c_Md_first 0 = .ok (.aload_n 0, 1) := by decide +kernel
theorem d_Md_first_1 : decode c_Md_first 1 = .ok (.aload_n 0, 1) := by decide +kernel
theorem d_Md_first_2 : decode c_Md_first 2 = .ok (.iload_n 1, 1) := by decide +kernel
theorem d_Md_first_3 : decode c_Md_first 3 = .ok (.invokevirtual 207, 3) := by decide +kernel
theorem d_Md_first_6 : decode c_Md_first 6 = .ok (.ifCond .eq 7, 3) := by decide +kernel
theorem d_Md_first_9 : decode c_Md_first 9 = .ok (.iconst 1, 1) := by decide +kernel
theorem d_Md_first_10 : decode c_Md_first 10 = .ok (.goto 17, 3) := by decide +kernel
theorem d_Md_first_13 : decode c_Md_first 13 = .ok (.aload_n 0, 1) := by decide +kernel
theorem d_Md_first_14 : decode c_Md_first 14 = .ok (.getfield 32, 3) := by decide +kernel
theorem d_Md_first_17 : decode c_Md_first 17 = .ok (.iload_n 1, 1) := by decide +kernel
theorem d_Md_first_18 : decode c_Md_first 18 = .ok (.baload, 1) := by decide +kernel
theorem d_Md_first_19 : decode c_Md_first 19 = .ok (.ifCond .ne 7, 3) := by decide +kernel
theorem d_Md_first_22 : decode c_Md_first 22 = .ok (.iconst 2, 1) := by decide +kernel
theorem d_Md_first_23 : decode c_Md_first 23 = .ok (.goto 4, 3) := by decide +kernel
theorem d_Md_first_26 : decode c_Md_first 26 = .ok (.iconst 0, 1) := by decide +kernel
theorem d_Md_first_27 : decode c_Md_first 27 = .ok (.putfield 7, 3) := by decide +kernel
theorem d_Md_first_30 : decode c_Md_first 30 = .ok (.aload_n 0, 1) := by decide +kernel
theorem d_Md_first_31 : decode c_Md_first 31 = .ok (.getfield 7, 3) := by decide +kernel
theorem d_Md_first_34 : decode c_Md_first 34 = .ok (.ifCond .eq 5, 3) := by decide +kernel
theorem d_Md_first_37 : decode c_Md_first 37 = .ok (.iconst 0, 1) := by decide +kernel
theorem d_Md_first_38 : decode c_Md_first 38 = .ok (.ireturn, 1) := by decide +kernel
theorem d_Md_first_39 : decode c_Md_first 39 = .ok (.aload_n 0, 1) := by decide +kernel
theorem d_Md_first_40 : decode c_Md_first 40 = .ok (.iconst 0, 1) := by decide +kernel
theorem d_Md_first_41 : decode c_Md_first 41 = .ok (.putfield 66, 3) := by decide +kernel
theorem d_Md_first_44 : decode c_Md_first 44 = .ok (.aload_n 0, 1) := by decide +kernel
theorem d_Md_first_45 : decode c_Md_first 45 = .ok (.iconst 0, 1) := by decide +kernel
theorem d_Md_first_46 : decode c_Md_first 46 = .ok (.putfield 87, 3) := by decide +kernel
theorem d_Md_first_49 : decode c_Md_first 49 = .ok (.sipush 400, 3) := by decide +kernel
theorem d_Md_first_52 : decode c_Md_first 52 = .ok (.istore_n 2, 1) := by decide +kernel
theorem d_Md_first_53 : decode c_Md_first 53 = .ok (.iconst 0, 1) := by decide +kernel
theorem d_Md_first_54 : decode c_Md_first 54 = .ok (.istore_n 3, 1) := by decide +kernel
theorem d_Md_first_55 : decode c_Md_first 55 = .ok (.iload_n 3, 1) := by decide +kernel
theorem d_Md_first_56 : decode c_Md_first 56 = .ok (.aload_n 0, 1) := by decide +kernel
theorem d_Md_first_57 : decode c_Md_first 57 = .ok (.getfield 54, 3) := by decide +kernel
theorem d_Md_first_60 : decode c_Md_first 60 = .ok (.if_icmp .ge 46, 3) := by decide +kernel
theorem d_Md_first_63 : decode c_Md_first 63 = .ok (.aload_n 0, 1) := by decide +kernel
theorem d_Md_first_64 : decode c_Md_first 64 = .ok (.iload_n 3, 1) := by decide +kernel
theorem d_Md_first_65 : decode c_Md_first 65 = .ok (.iload_n 1, 1) := by decide +kernel
theorem d_Md_first_66 : decode c_Md_first 66 = .ok (.invokevirtual 214, 3) := by decide +kernel
theorem d_Md_first_69 : decode c_Md_first 69 = .ok (.ifCond .eq 31, 3) := by decide +kernel
theorem d_Md_first_72 : decode c_Md_first 72 = .ok (.aload_n 0, 1) := by decide +kernel
theorem d_Md_first_73 : decode c_Md_first 73 = .ok (.aload_n 0, 1) := by decide +kernel
theorem d_Md_first_74 : decode c_Md_first 74 = .ok (.getfield 57, 3) := by decide +kernel
theorem d_Md_first_77 : decode c_Md_first 77 = .ok (.iload_n 3, 1) := by decide +kernel
theorem d_Md_first_78 : decode c_Md_first 78 = .ok (.iaload, 1) := by decide +kernel
theorem d_Md_first_79 : decode c_Md_first 79 = .ok (.iload_n 1, 1) := by decide +kernel
theorem d_Md_first_80 : decode c_Md_first 80 = .ok (.iload_n 2, 1) := by decide +kernel
theorem d_Md_first_81 : decode c_Md_first 81 = .ok (.invokevirtual 210, 3) := by decide +kernel
theorem d_Md_first_84 : decode c_Md_first 84 = .ok (.aload_n 0, 1) := by decide +kernel
theorem d_Md_first_85 : decode c_Md_first 85 = .ok (.getfield 93, 3) := by decide +kernel
theorem d_Md_first_88 : decode c_Md_first 88 = .ok (.ifCond .le 5, 3) := by decide +kernel
theorem d_Md_first_91 : decode c_Md_first 91 = .ok (.iload_n 3, 1) := by decide +kernel
theorem d_Md_first_92 : decode c_Md_first 92 = .ok (.ireturn, 1) := by decide +kernel
theorem d_Md_first_93 : decode c_Md_first 93 = .ok (.iload_n 2, 1) := by decide +kernel
theorem d_Md_first_94 : decode c_Md_first 94 = .ok (.aload_n 0, 1) := by decide +kernel
theorem d_Md_first_95 : decode c_Md_first 95 = .ok (.getfield 87, 3) := by decide +kernel
theorem d_Md_first_98 : decode c_Md_first 98 = .ok (.isub, 1) := by decide +kernel
theorem d_Md_first_99 : decode c_Md_first 99 = .ok (.istore_n 2, 1) := by decide +kernel
theorem d_Md_first_100 : decode c_Md_first 100 = .ok (.iinc 3 1, 3) := by decide +kernel
theorem d_Md_first_103 : decode c_Md_first 103 = .ok (.goto (-48), 3) := by decide +kernel
theorem d_Md_first_106 : decode c_Md_first 106 = .ok (.iconst (-1), 1) := by decide +kernel
theorem d_Md_first_107 : decode c_Md_first 107 = .ok (.ireturn, 1) := by decide +kernel
theorem d_Md_order_0 : decode c_Md_order 0 = .ok (.aload_n 0, 1) := by decide +kernel
theorem d_Md_order_1 : decode c_Md_order 1 = .ok (.aload_n 0, 1) := by decide +kernel
theorem d_Md_order_2 : decode c_Md_order 2 = .ok (.iload_n 1, 1) := by decide +kernel
theorem d_Md_order_3 : decode c_Md_order 3 = .ok (.invokevirtual 207, 3) := by decide +kernel
theorem d_Md_order_6 : decode c_Md_order 6 = .ok (.ifCond .ne 11, 3) := by decide +kernel
theorem d_Md_order_9 : decode c_Md_order 9 = .ok (.aload_n 0, 1) := by decide +kernel
theorem d_Md_order_10 : decode c_Md_order 10 = .ok (.iload_n 2, 1) := by decide +kernel
theorem d_Md_order_11 : decode c_Md_order 11 = .ok (.invokevirtual 207, 3) := by decide +kernel
theorem d_Md_order_14 : decode c_Md_order 14 = .ok (.ifCond .eq 7, 3) := by decide +kernel
theorem d_Md_order_17 : decode c_Md_order 17 = .ok (.iconst 1, 1) := by decide +kernel
theorem d_Md_order_18 : decode c_Md_order 18 = .ok (.goto 26, 3) := by decide +kernel
theorem d_Md_order_21 : decode c_Md_order 21 = .ok (.aload_n 0, 1) := by decide +kernel
theorem d_Md_order_22 : decode c_Md_order 22 = .ok (.getfield 32, 3) := by decide +kernel
theorem d_Md_order_25 : decode c_Md_order 25 = .ok (.iload_n 1, 1) := by decide +kernel
theorem d_Md_order_26 : decode c_Md_order 26 = .ok (.baload, 1) := by decide +kernel
theorem d_Md_order_27 : decode c_Md_order 27 = .ok (.ifCond .eq 12, 3) := by decide +kernel
theorem d_Md_order_30 : decode c_Md_order 30 = .ok (.aload_n 0, 1) := by decide +kernel
theorem d_Md_order_31 : decode c_Md_order 31 = .ok (.getfield 32, 3) := by decide +kernel
theorem d_Md_order_34 : decode c_Md_order 34 = .ok (.iload_n 2, 1) := by decide +kernel
theorem d_Md_order_35 : decode c_Md_order 35 = .ok (.baload, 1) := by decide +kernel
theorem d_Md_order_36 : decode c_Md_order 36 = .ok (.ifCond .ne 7, 3) := by decide +kernel
theorem d_Md_order_39 : decode c_Md_order 39 = .ok (.iconst 2, 1) := by decide +kernel
theorem d_Md_order_40 : decode c_Md_order 40 = .ok (.goto 4, 3) := by decide +kernel
theorem d_Md_order_43 : decode c_Md_order 43 = .ok (.iconst 0, 1) := by decide +kernel
theorem d_Md_order_44 : decode c_Md_order 44 = .ok (.putfield 7, 3) := by decide +kernel
theorem d_Md_order_47 : decode c_Md_order 47 = .ok (.aload_n 0, 1) := by decide +kernel
theorem d_Md_order_48 : decode c_Md_order 48 = .ok (.getfield 7, 3) := by decide +kernel
theorem d_Md_order_51 : decode c_Md_order 51 = .ok (.ifCond .eq 7, 3) := by decide +kernel
theorem d_Md_order_54 : decode c_Md_order 54 = .ok (.iconst 0, 1) := by decide +kernel
theorem d_Md_order_55 : decode c_Md_order 55 = .ok (.goto 9, 3) := by decide +kernel
theorem d_Md_order_58 : decode c_Md_order 58 = .ok (.aload_n 0, 1) := by decide +kernel
theorem d_Md_order_59 : decode c_Md_order 59 = .ok (.iload_n 1, 1) := by decide +kernel
theorem d_Md_order_60 : decode c_Md_order 60 = .ok (.iload_n 2, 1) := by decide +kernel
theorem d_Md_order_61 : decode c_Md_order 61 = .ok (.invokevirtual 149, 3) := by decide +kernel
theorem d_Md_order_64 : decode c_Md_order 64 = .ok (.ireturn, 1) := by decide +kernel
theorem d_Md_parts_0 : decode c_Md_parts 0 = .ok (.aload_n 0, 1) := by decide +kernel
theorem d_Md_parts_1 : decode c_Md_parts 1 = .ok (.aload_n 0, 1) := by decide +kernel
theorem d_Md_parts_2 : decode c_Md_parts 2 = .ok (.iload_n 1, 1) := by decide +kernel
theorem d_Md_parts_3 : decode c_Md_parts 3 = .ok (.invokevirtual 207, 3) := by decide +kernel
theorem d_Md_parts_6 : decode c_Md_parts 6 = .ok (.ifCond .eq 7, 3) := by decide +kernel
theorem d_Md_parts_9 : decode c_Md_parts 9 = .ok (.iconst 1, 1) := by decide +kernel
theorem d_Md_parts_10 : decode c_Md_parts 10 = .ok (.goto 4, 3) := by decide +kernel
theorem d_Md_parts_13 : decode c_Md_parts 13 = .ok (.iconst 0, 1) := by decide +kernel
theorem d_Md_parts_14 : decode c_Md_parts 14 = .ok (.putfield 7, 3) := by decide +kernel
theorem d_Md_parts_17 : decode c_Md_parts 17 = .ok (.aload_n 0, 1) := by decide +kernel
theorem d_Md_parts_18 : decode c_Md_parts 18 = .ok (.getfield 7, 3) := by decide +kernel
theorem d_Md_parts_21 : decode c_Md_parts 21 = .ok (.ifCond .eq 7, 3) := by decide +kernel
theorem d_Md_parts_24 : decode c_Md_parts 24 = .ok (.iconst 0, 1) := by decide +kernel
theorem d_Md_parts_25 : decode c_Md_parts 25 = .ok (.goto 9, 3) := by decide +kernel
theorem d_Md_parts_28 : decode c_Md_parts 28 = .ok (.aload_n 0, 1) := by decide +kernel
theorem d_Md_parts_29 : decode c_Md_parts 29 = .ok (.getfield 26, 3) := by decide +kernel
theorem d_Md_parts_32 : decode c_Md_parts 32 = .ok (.iload_n 1, 1) := by decide +kernel
theorem d_Md_parts_33 : decode c_Md_parts 33 = .ok (.iaload, 1) := by decide +kernel
theorem d_Md_parts_34 : decode c_Md_parts 34 = .ok (.ireturn, 1) := by decide +kernel
theorem d_Md_part_0 : decode c_Md_part 0 = .ok (.aload_n 0, 1) := by decide +kernel
theorem d_Md_part_1 : decode c_Md_part 1 = .ok (.aload_n 0, 1) := by decide +kernel
theorem d_Md_part_2 : decode c_Md_part 2 = .ok (.iload_n 1, 1) := by decide +kernel
theorem d_Md_part_3 : decode c_Md_part 3 = .ok (.invokevirtual 207, 3) := by decide +kernel
theorem d_Md_part_6 : decode c_Md_part 6 = .ok (.ifCond .eq 7, 3) := by decide +kernel
theorem d_Md_part_9 : decode c_Md_part 9 = .ok (.iconst 1, 1) := by decide +kernel
theorem d_Md_part_10 : decode c_Md_part 10 = .ok (.goto 4, 3) := by decide +kernel
theorem d_Md_part_13 : decode c_Md_part 13 = .ok (.iconst 0, 1) := by decide +kernel
theorem d_Md_part_14 : decode c_Md_part 14 = .ok (.putfield 7, 3) := by decide +kernel
theorem d_Md_part_17 : decode c_Md_part 17 = .ok (.aload_n 0, 1) := by decide +kernel
theorem d_Md_part_18 : decode c_Md_part 18 = .ok (.getfield 7, 3) := by decide +kernel
theorem d_Md_part_21 : decode c_Md_part 21 = .ok (.ifCond .eq 5, 3) := by decide +kernel
theorem d_Md_part_24 : decode c_Md_part 24 = .ok (.iconst 0, 1) := by decide +kernel
theorem d_Md_part_25 : decode c_Md_part 25 = .ok (.ireturn, 1) := by decide +kernel
theorem d_Md_part_26 : decode c_Md_part 26 = .ok (.iload_n 2, 1) := by decide +kernel
theorem d_Md_part_27 : decode c_Md_part 27 = .ok (.ifCond .lt 13, 3) := by decide +kernel
theorem d_Md_part_30 : decode c_Md_part 30 = .ok (.iload_n 2, 1) := by decide +kernel
theorem d_Md_part_31 : decode c_Md_part 31 = .ok (.aload_n 0, 1) := by decide +kernel
theorem d_Md_part_32 : decode c_Md_part 32 = .ok (.getfield 26, 3) := by decide +kernel
theorem d_Md_part_35 : decode c_Md_part 35 = .ok (.iload_n 1, 1) := by decide +kernel
theorem d_Md_part_36 : decode c_Md_part 36 = .ok (.iaload, 1) := by decide +kernel
theorem d_Md_part_37 : decode c_Md_part 37 = .ok (.if_icmp .lt 7, 3) := by decide +kernel
theorem d_Md_part_40 : decode c_Md_part 40 = .ok (.iconst (-1), 1) := by decide +kernel
theorem d_Md_part_41 : decode c_Md_part 41 = .ok (.goto 14, 3) := by decide +kernel
theorem d_Md_part_44 : decode c_Md_part 44 = .ok (.aload_n 0, 1) := by decide +kernel
theorem d_Md_part_45 : decode c_Md_part 45 = .ok (.getfield 29, 3) := by decide +kernel
theorem d_Md_part_48 : decode c_Md_part 48 = .ok (.bipush 12, 2) := by decide +kernel
theorem d_Md_part_50 : decode c_Md_part 50 = .ok (.iload_n 1, 1) := by decide +kernel
theorem d_Md_part_51 : decode c_Md_part 51 = .ok (.imul, 1) := by decide +kernel
theorem d_Md_part_52 : decode c_Md_part 52 = .ok (.iload_n 2, 1) := by decide +kernel
theorem d_Md_part_53 : decode c_Md_part 53 = .ok (.iadd, 1) := by decide +kernel
theorem d_Md_part_54 : decode c_Md_part 54 = .ok (.iaload, 1) := by decide +kernel
theorem d_Md_part_55 : decode c_Md_part 55 = .ok (.ireturn, 1) := by decide +kernel
theorem d_Md_count_0 : decode c_Md_count 0 = .ok (.aload_n 0, 1) := by decide +kernel
theorem d_Md_count_1 : decode c_Md_count 1 = .ok (.iconst 0, 1) := by decide +kernel
theorem d_Md_count_2 : decode c_Md_count 2 = .ok (.putfield 7, 3) := by decide +kernel
theorem d_Md_count_5 : decode c_Md_count 5 = .ok (.iload_n 1, 1) := by decide +kernel
theorem d_Md_count_6 : decode c_Md_count 6 = .ok (.ifCond .ne 10, 3) := by decide +kernel
theorem d_Md_count_9 : decode c_Md_count 9 = .ok (.aload_n 0, 1) := by decide +kernel
theorem d_Md_count_10 : decode c_Md_count 10 = .ok (.getfield 13, 3) := by decide +kernel
theorem d_Md_count_13 : decode c_Md_count 13 = .ok (.goto 28, 3) := by decide +kernel
theorem d_Md_count_16 : decode c_Md_count 16 = .ok (.iload_n 1, 1) := by decide +kernel
theorem d_Md_count_17 : decode c_Md_count 17 = .ok (.iconst 1, 1) := by decide +kernel
theorem d_Md_count_18 : decode c_Md_count 18 = .ok (.if_icmp .ne 10, 3) := by decide +kernel
theorem d_Md_count_21 : decode c_Md_count 21 = .ok (.aload_n 0, 1) := by decide +kernel
theorem d_Md_count_22 : decode c_Md_count 22 = .ok (.getfield 54, 3) := by decide +kernel
theorem d_Md_count_25 : decode c_Md_count 25 = .ok (.goto 16, 3) := by decide +kernel
theorem d_Md_count_28 : decode c_Md_count 28 = .ok (.iload_n 1, 1) := by decide +kernel
theorem d_Md_count_29 : decode c_Md_count 29 = .ok (.iconst 2, 1) := by decide +kernel
theorem d_Md_count_30 : decode c_Md_count 30 = .ok (.if_icmp .ne 10, 3) := by decide +kernel
theorem d_Md_count_33 : decode c_Md_count 33 = .ok (.aload_n 0, 1) := by decide +kernel
theorem d_Md_count_34 : decode c_Md_count 34 = .ok (.getfield 66, 3) := by decide +kernel
theorem d_Md_count_37 : decode c_Md_count 37 = .ok (.goto 4, 3) := by decide +kernel
theorem d_Md_count_40 : decode c_Md_count 40 = .ok (.iconst (-1), 1) := by decide +kernel
theorem d_Md_count_41 : decode c_Md_count 41 = .ok (.ireturn, 1) := by decide +kernel
