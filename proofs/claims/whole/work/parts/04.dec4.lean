theorem dX9_count_150 : decode cX9_count 150 = .ok (.getfield 79, 3) := by decide +kernel
theorem dX9_count_153 : decode cX9_count 153 = .ok (.ireturn, 1) := by decide +kernel
theorem dX9_count_154 : decode cX9_count 154 = .ok (.aload_n 0, 1) := by decide +kernel
theorem dX9_count_155 : decode cX9_count 155 = .ok (.getfield 31, 3) := by decide +kernel
theorem dX9_count_158 : decode cX9_count 158 = .ok (.getfield 166, 3) := by decide +kernel
theorem dX9_count_161 : decode cX9_count 161 = .ok (.iconst 1, 1) := by decide +kernel
theorem dX9_count_162 : decode cX9_count 162 = .ok (.iadd, 1) := by decide +kernel
theorem dX9_count_163 : decode cX9_count 163 = .ok (.iconst 2, 1) := by decide +kernel
theorem dX9_count_164 : decode cX9_count 164 = .ok (.aload_n 0, 1) := by decide +kernel
theorem dX9_count_165 : decode cX9_count 165 = .ok (.getfield 31, 3) := by decide +kernel
theorem dX9_count_168 : decode cX9_count 168 = .ok (.getfield 173, 3) := by decide +kernel
theorem dX9_count_171 : decode cX9_count 171 = .ok (.imul, 1) := by decide +kernel
theorem dX9_count_172 : decode cX9_count 172 = .ok (.iconst 1, 1) := by decide +kernel
theorem dX9_count_173 : decode cX9_count 173 = .ok (.iadd, 1) := by decide +kernel
theorem dX9_count_174 : decode cX9_count 174 = .ok (.imul, 1) := by decide +kernel
theorem dX9_count_175 : decode cX9_count 175 = .ok (.iconst 2, 1) := by decide +kernel
theorem dX9_count_176 : decode cX9_count 176 = .ok (.aload_n 0, 1) := by decide +kernel
theorem dX9_count_177 : decode cX9_count 177 = .ok (.getfield 31, 3) := by decide +kernel
theorem dX9_count_180 : decode cX9_count 180 = .ok (.getfield 281, 3) := by decide +kernel
theorem dX9_count_183 : decode cX9_count 183 = .ok (.imul, 1) := by decide +kernel
theorem dX9_count_184 : decode cX9_count 184 = .ok (.iconst 1, 1) := by decide +kernel
theorem dX9_count_185 : decode cX9_count 185 = .ok (.iadd, 1) := by decide +kernel
theorem dX9_count_186 : decode cX9_count 186 = .ok (.imul, 1) := by decide +kernel
theorem dX9_count_187 : decode cX9_count 187 = .ok (.ireturn, 1) := by decide +kernel
theorem dX9_count_188 : decode cX9_count 188 = .ok (.aload_n 0, 1) := by decide +kernel
theorem dX9_count_189 : decode cX9_count 189 = .ok (.getfield 54, 3) := by decide +kernel
theorem dX9_count_192 : decode cX9_count 192 = .ok (.invokevirtual 146, 3) := by decide +kernel
theorem dX9_count_195 : decode cX9_count 195 = .ok (.aload_n 0, 1) := by decide +kernel
theorem dX9_count_196 : decode cX9_count 196 = .ok (.getfield 54, 3) := by decide +kernel
theorem dX9_count_199 : decode cX9_count 199 = .ok (.iconst 0, 1) := by decide +kernel
theorem dX9_count_200 : decode cX9_count 200 = .ok (.sipush 2079, 3) := by decide +kernel
theorem dX9_count_203 : decode cX9_count 203 = .ok (.invokevirtual 169, 3) := by decide +kernel
theorem dX9_count_206 : decode cX9_count 206 = .ok (.ireturn, 1) := by decide +kernel
theorem dX9_count_207 : decode cX9_count 207 = .ok (.aload_n 0, 1) := by decide +kernel
theorem dX9_count_208 : decode cX9_count 208 = .ok (.getfield 75, 3) := by decide +kernel
theorem dX9_count_211 : decode cX9_count 211 = .ok (.invokevirtual 241, 3) := by decide +kernel
theorem dX9_count_214 : decode cX9_count 214 = .ok (.ireturn, 1) := by decide +kernel
theorem dX9_count_215 : decode cX9_count 215 = .ok (.iconst (-1), 1) := by decide +kernel
theorem dX9_count_216 : decode cX9_count 216 = .ok (.ireturn, 1) := by decide +kernel
theorem dX10_init_0 : decode cX10_init 0 = .ok (.aload_n 0, 1) := by decide +kernel
theorem dX10_init_1 : decode cX10_init 1 = .ok (.invokespecial 1, 3) := by decide +kernel
theorem dX10_init_4 : decode cX10_init 4 = .ok (.aload_n 0, 1) := by decide +kernel
theorem dX10_init_5 : decode cX10_init 5 = .ok (.sipush 2000, 3) := by decide +kernel
theorem dX10_init_8 : decode cX10_init 8 = .ok (.newarray .int, 2) := by decide +kernel
theorem dX10_init_10 : decode cX10_init 10 = .ok (.putfield 7, 3) := by decide +kernel
theorem dX10_init_13 : decode cX10_init 13 = .ok (.aload_n 0, 1) := by decide +kernel
theorem dX10_init_14 : decode cX10_init 14 = .ok (.sipush 2001, 3) := by decide +kernel
theorem dX10_init_17 : decode cX10_init 17 = .ok (.newarray .int, 2) := by decide +kernel
theorem dX10_init_19 : decode cX10_init 19 = .ok (.putfield 13, 3) := by decide +kernel
theorem dX10_init_22 : decode cX10_init 22 = .ok (.aload_n 0, 1) := by decide +kernel
theorem dX10_init_23 : decode cX10_init 23 = .ok (.sipush 2001, 3) := by decide +kernel
theorem dX10_init_26 : decode cX10_init 26 = .ok (.newarray .int, 2) := by decide +kernel
theorem dX10_init_28 : decode cX10_init 28 = .ok (.putfield 16, 3) := by decide +kernel
theorem dX10_init_31 : decode cX10_init 31 = .ok (.aload_n 0, 1) := by decide +kernel
theorem dX10_init_32 : decode cX10_init 32 = .ok (.sipush 2001, 3) := by decide +kernel
theorem dX10_init_35 : decode cX10_init 35 = .ok (.newarray .int, 2) := by decide +kernel
theorem dX10_init_37 : decode cX10_init 37 = .ok (.putfield 19, 3) := by decide +kernel
theorem dX10_init_40 : decode cX10_init 40 = .ok (.aload_n 0, 1) := by decide +kernel
theorem dX10_init_41 : decode cX10_init 41 = .ok (.sipush 2001, 3) := by decide +kernel
theorem dX10_init_44 : decode cX10_init 44 = .ok (.newarray .long, 2) := by decide +kernel
theorem dX10_init_46 : decode cX10_init 46 = .ok (.putfield 22, 3) := by decide +kernel
theorem dX10_init_49 : decode cX10_init 49 = .ok (.aload_n 0, 1) := by decide +kernel
theorem dX10_init_50 : decode cX10_init 50 = .ok (.iconst (-1), 1) := by decide +kernel
theorem dX10_init_51 : decode cX10_init 51 = .ok (.putfield 26, 3) := by decide +kernel
theorem dX10_init_54 : decode cX10_init 54 = .ok (.aload_n 0, 1) := by decide +kernel
theorem dX10_init_55 : decode cX10_init 55 = .ok (.iconst 2, 1) := by decide +kernel
theorem dX10_init_56 : decode cX10_init 56 = .ok (.newarray .int, 2) := by decide +kernel
theorem dX10_init_58 : decode cX10_init 58 = .ok (.putfield 30, 3) := by decide +kernel
theorem dX10_init_61 : decode cX10_init 61 = .ok (.aload_n 0, 1) := by decide +kernel
theorem dX10_init_62 : decode cX10_init 62 = .ok (.iconst 2, 1) := by decide +kernel
theorem dX10_init_63 : decode cX10_init 63 = .ok (.newarray .int, 2) := by decide +kernel
theorem dX10_init_65 : decode cX10_init 65 = .ok (.putfield 33, 3) := by decide +kernel
theorem dX10_init_68 : decode cX10_init 68 = .ok (.aload_n 0, 1) := by decide +kernel
theorem dX10_init_69 : decode cX10_init 69 = .ok (.iconst 2, 1) := by decide +kernel
theorem dX10_init_70 : decode cX10_init 70 = .ok (.newarray .int, 2) := by decide +kernel
theorem dX10_init_72 : decode cX10_init 72 = .ok (.putfield 36, 3) := by decide +kernel
theorem dX10_init_75 : decode cX10_init 75 = .ok (.aload_n 0, 1) := by decide +kernel
theorem dX10_init_76 : decode cX10_init 76 = .ok (.iconst 4, 1) := by decide +kernel
theorem dX10_init_77 : decode cX10_init 77 = .ok (.newarray .int, 2) := by decide +kernel
theorem dX10_init_79 : decode cX10_init 79 = .ok (.putfield 39, 3) := by decide +kernel
theorem dX10_init_82 : decode cX10_init 82 = .ok (.aload_n 0, 1) := by decide +kernel
theorem dX10_init_83 : decode cX10_init 83 = .ok (.iconst 4, 1) := by decide +kernel
theorem dX10_init_84 : decode cX10_init 84 = .ok (.newarray .int, 2) := by decide +kernel
theorem dX10_init_86 : decode cX10_init 86 = .ok (.putfield 42, 3) := by decide +kernel
theorem dX10_init_89 : decode cX10_init 89 = .ok (.aload_n 0, 1) := by decide +kernel
theorem dX10_init_90 : decode cX10_init 90 = .ok (.iconst 2, 1) := by decide +kernel
theorem dX10_init_91 : decode cX10_init 91 = .ok (.newarray .int, 2) := by decide +kernel
theorem dX10_init_93 : decode cX10_init 93 = .ok (.putfield 45, 3) := by decide +kernel
theorem dX10_init_96 : decode cX10_init 96 = .ok (.aload_n 0, 1) := by decide +kernel
theorem dX10_init_97 : decode cX10_init 97 = .ok (.bipush 12, 2) := by decide +kernel
theorem dX10_init_99 : decode cX10_init 99 = .ok (.newarray .long, 2) := by decide +kernel
theorem dX10_init_101 : decode cX10_init 101 = .ok (.putfield 48, 3) := by decide +kernel
theorem dX10_init_104 : decode cX10_init 104 = .ok (.aload_n 0, 1) := by decide +kernel
theorem dX10_init_105 : decode cX10_init 105 = .ok (.bipush 12, 2) := by decide +kernel
theorem dX10_init_107 : decode cX10_init 107 = .ok (.newarray .int, 2) := by decide +kernel
theorem dX10_init_109 : decode cX10_init 109 = .ok (.putfield 51, 3) := by decide +kernel
theorem dX10_init_112 : decode cX10_init 112 = .ok (.aload_n 0, 1) := by decide +kernel
theorem dX10_init_113 : decode cX10_init 113 = .ok (.bipush 12, 2) := by decide +kernel
theorem dX10_init_115 : decode cX10_init 115 = .ok (.newarray .int, 2) := by decide +kernel
theorem dX10_init_117 : decode cX10_init 117 = .ok (.putfield 54, 3) := by decide +kernel
theorem dX10_init_120 : decode cX10_init 120 = .ok (.aload_n 0, 1) := by decide +kernel
theorem dX10_init_121 : decode cX10_init 121 = .ok (.bipush 12, 2) := by decide +kernel
theorem dX10_init_123 : decode cX10_init 123 = .ok (.newarray .int, 2) := by decide +kernel
theorem dX10_init_125 : decode cX10_init 125 = .ok (.putfield 57, 3) := by decide +kernel
theorem dX10_init_128 : decode cX10_init 128 = .ok (.aload_n 0, 1) := by decide +kernel
theorem dX10_init_129 : decode cX10_init 129 = .ok (.bipush 12, 2) := by decide +kernel
theorem dX10_init_131 : decode cX10_init 131 = .ok (.newarray .int, 2) := by decide +kernel
theorem dX10_init_133 : decode cX10_init 133 = .ok (.putfield 60, 3) := by decide +kernel
theorem dX10_init_136 : decode cX10_init 136 = .ok (.aload_n 0, 1) := by decide +kernel
theorem dX10_init_137 : decode cX10_init 137 = .ok (.iconst 2, 1) := by decide +kernel
theorem dX10_init_138 : decode cX10_init 138 = .ok (.newarray .int, 2) := by decide +kernel
theorem dX10_init_140 : decode cX10_init 140 = .ok (.putfield 63, 3) := by decide +kernel
theorem dX10_init_143 : decode cX10_init 143 = .ok (.aload_n 0, 1) := by decide +kernel
theorem dX10_init_144 : decode cX10_init 144 = .ok (.bipush 16, 2) := by decide +kernel
theorem dX10_init_146 : decode cX10_init 146 = .ok (.newarray .int, 2) := by decide +kernel
theorem dX10_init_148 : decode cX10_init 148 = .ok (.putfield 66, 3) := by decide +kernel
theorem dX10_init_151 : decode cX10_init 151 = .ok (.aload_n 0, 1) := by decide +kernel
theorem dX10_init_152 : decode cX10_init 152 = .ok (.bipush 16, 2) := by decide +kernel
theorem dX10_init_154 : decode cX10_init 154 = .ok (.newarray .int, 2) := by decide +kernel
theorem dX10_init_156 : decode cX10_init 156 = .ok (.putfield 69, 3) := by decide +kernel
theorem dX10_init_159 : decode cX10_init 159 = .ok (.aload_n 0, 1) := by decide +kernel
theorem dX10_init_160 : decode cX10_init 160 = .ok (.bipush 16, 2) := by decide +kernel
theorem dX10_init_162 : decode cX10_init 162 = .ok (.newarray .int, 2) := by decide +kernel
theorem dX10_init_164 : decode cX10_init 164 = .ok (.putfield 72, 3) := by decide +kernel
theorem dX10_init_167 : decode cX10_init 167 = .ok (.aload_n 0, 1) := by decide +kernel
theorem dX10_init_168 : decode cX10_init 168 = .ok (.bipush 16, 2) := by decide +kernel
theorem dX10_init_170 : decode cX10_init 170 = .ok (.newarray .int, 2) := by decide +kernel
theorem dX10_init_172 : decode cX10_init 172 = .ok (.putfield 75, 3) := by decide +kernel
theorem dX10_init_175 : decode cX10_init 175 = .ok (.aload_n 0, 1) := by decide +kernel
theorem dX10_init_176 : decode cX10_init 176 = .ok (.bipush 16, 2) := by decide +kernel
theorem dX10_init_178 : decode cX10_init 178 = .ok (.newarray .int, 2) := by decide +kernel
theorem dX10_init_180 : decode cX10_init 180 = .ok (.putfield 78, 3) := by decide +kernel
theorem dX10_init_183 : decode cX10_init 183 = .ok (.aload_n 0, 1) := by decide +kernel
theorem dX10_init_184 : decode cX10_init 184 = .ok (.bipush 16, 2) := by decide +kernel
theorem dX10_init_186 : decode cX10_init 186 = .ok (.newarray .int, 2) := by decide +kernel
theorem dX10_init_188 : decode cX10_init 188 = .ok (.putfield 81, 3) := by decide +kernel
theorem dX10_init_191 : decode cX10_init 191 = .ok (.aload_n 0, 1) := by decide +kernel
theorem dX10_init_192 : decode cX10_init 192 = .ok (.iconst 2, 1) := by decide +kernel
theorem dX10_init_193 : decode cX10_init 193 = .ok (.newarray .int, 2) := by decide +kernel
theorem dX10_init_195 : decode cX10_init 195 = .ok (.putfield 84, 3) := by decide +kernel
theorem dX10_init_198 : decode cX10_init 198 = .ok (.aload_n 0, 1) := by decide +kernel
theorem dX10_init_199 : decode cX10_init 199 = .ok (.bipush 24, 2) := by decide +kernel
theorem dX10_init_201 : decode cX10_init 201 = .ok (.newarray .int, 2) := by decide +kernel
theorem dX10_init_203 : decode cX10_init 203 = .ok (.putfield 87, 3) := by decide +kernel
theorem dX10_init_206 : decode cX10_init 206 = .ok (.aload_n 0, 1) := by decide +kernel
theorem dX10_init_207 : decode cX10_init 207 = .ok (.bipush 24, 2) := by decide +kernel
theorem dX10_init_209 : decode cX10_init 209 = .ok (.newarray .int, 2) := by decide +kernel
theorem dX10_init_211 : decode cX10_init 211 = .ok (.putfield 90, 3) := by decide +kernel
theorem dX10_init_214 : decode cX10_init 214 = .ok (.aload_n 0, 1) := by decide +kernel
theorem dX10_init_215 : decode cX10_init 215 = .ok (.bipush 24, 2) := by decide +kernel
theorem dX10_init_217 : decode cX10_init 217 = .ok (.newarray .int, 2) := by decide +kernel
theorem dX10_init_219 : decode cX10_init 219 = .ok (.putfield 93, 3) := by decide +kernel
theorem dX10_init_222 : decode cX10_init 222 = .ok (.aload_n 0, 1) := by decide +kernel
theorem dX10_init_223 : decode cX10_init 223 = .ok (.iconst 2, 1) := by decide +kernel
theorem dX10_init_224 : decode cX10_init 224 = .ok (.newarray .int, 2) := by decide +kernel
theorem dX10_init_226 : decode cX10_init 226 = .ok (.putfield 96, 3) := by decide +kernel
theorem dX10_init_229 : decode cX10_init 229 = .ok (.aload_n 0, 1) := by decide +kernel
theorem dX10_init_230 : decode cX10_init 230 = .ok (.sipush 1000, 3) := by decide +kernel
theorem dX10_init_233 : decode cX10_init 233 = .ok (.newarray .int, 2) := by decide +kernel
theorem dX10_init_235 : decode cX10_init 235 = .ok (.putfield 99, 3) := by decide +kernel
theorem dX10_init_238 : decode cX10_init 238 = .ok (.aload_n 0, 1) := by decide +kernel
theorem dX10_init_239 : decode cX10_init 239 = .ok (.sipush 1000, 3) := by decide +kernel
theorem dX10_init_242 : decode cX10_init 242 = .ok (.newarray .int, 2) := by decide +kernel
theorem dX10_init_244 : decode cX10_init 244 = .ok (.putfield 102, 3) := by decide +kernel
theorem dX10_init_247 : decode cX10_init 247 = .ok (.aload_n 0, 1) := by decide +kernel
theorem dX10_init_248 : decode cX10_init 248 = .ok (.iconst 2, 1) := by decide +kernel
theorem dX10_init_249 : decode cX10_init 249 = .ok (.newarray .int, 2) := by decide +kernel
theorem dX10_init_251 : decode cX10_init 251 = .ok (.putfield 105, 3) := by decide +kernel
theorem dX10_init_254 : decode cX10_init 254 = .ok (.aload_n 0, 1) := by decide +kernel
theorem dX10_init_255 : decode cX10_init 255 = .ok (.sipush 400, 3) := by decide +kernel
theorem dX10_init_258 : decode cX10_init 258 = .ok (.newarray .boolean, 2) := by decide +kernel
theorem dX10_init_260 : decode cX10_init 260 = .ok (.putfield 108, 3) := by decide +kernel
theorem dX10_init_263 : decode cX10_init 263 = .ok (.aload_n 0, 1) := by decide +kernel
theorem dX10_init_264 : decode cX10_init 264 = .ok (.sipush 400, 3) := by decide +kernel
theorem dX10_init_267 : decode cX10_init 267 = .ok (.newarray .int, 2) := by decide +kernel
theorem dX10_init_269 : decode cX10_init 269 = .ok (.putfield 112, 3) := by decide +kernel
theorem dX10_init_272 : decode cX10_init 272 = .ok (.aload_n 0, 1) := by decide +kernel
theorem dX10_init_273 : decode cX10_init 273 = .ok (.sipush 400, 3) := by decide +kernel
theorem dX10_init_276 : decode cX10_init 276 = .ok (.newarray .int, 2) := by decide +kernel
theorem dX10_init_278 : decode cX10_init 278 = .ok (.putfield 115, 3) := by decide +kernel
theorem dX10_init_281 : decode cX10_init 281 = .ok (.aload_n 0, 1) := by decide +kernel
theorem dX10_init_282 : decode cX10_init 282 = .ok (.sipush 400, 3) := by decide +kernel
theorem dX10_init_285 : decode cX10_init 285 = .ok (.newarray .int, 2) := by decide +kernel
theorem dX10_init_287 : decode cX10_init 287 = .ok (.putfield 118, 3) := by decide +kernel
theorem dX10_init_290 : decode cX10_init 290 = .ok (.aload_n 0, 1) := by decide +kernel
theorem dX10_init_291 : decode cX10_init 291 = .ok (.sipush 400, 3) := by decide +kernel
theorem dX10_init_294 : decode cX10_init 294 = .ok (.newarray .int, 2) := by decide +kernel
theorem dX10_init_296 : decode cX10_init 296 = .ok (.putfield 121, 3) := by decide +kernel
theorem dX10_init_299 : decode cX10_init 299 = .ok (.aload_n 0, 1) := by decide +kernel
theorem dX10_init_300 : decode cX10_init 300 = .ok (.sipush 400, 3) := by decide +kernel
theorem dX10_init_303 : decode cX10_init 303 = .ok (.newarray .int, 2) := by decide +kernel
theorem dX10_init_305 : decode cX10_init 305 = .ok (.putfield 124, 3) := by decide +kernel
theorem dX10_init_308 : decode cX10_init 308 = .ok (.aload_n 0, 1) := by decide +kernel
theorem dX10_init_309 : decode cX10_init 309 = .ok (.iconst 1, 1) := by decide +kernel
theorem dX10_init_310 : decode cX10_init 310 = .ok (.putfield 127, 3) := by decide +kernel
theorem dX10_init_313 : decode cX10_init 313 = .ok (.aload_n 0, 1) := by decide +kernel
theorem dX10_init_314 : decode cX10_init 314 = .ok (.bipush 24, 2) := by decide +kernel
theorem dX10_init_316 : decode cX10_init 316 = .ok (.newarray .int, 2) := by decide +kernel
theorem dX10_init_318 : decode cX10_init 318 = .ok (.putfield 130, 3) := by decide +kernel
theorem dX10_init_321 : decode cX10_init 321 = .ok (.aload_n 0, 1) := by decide +kernel
theorem dX10_init_322 : decode cX10_init 322 = .ok (.bipush 40, 2) := by decide +kernel
theorem dX10_init_324 : decode cX10_init 324 = .ok (.newarray .int, 2) := by decide +kernel
theorem dX10_init_326 : decode cX10_init 326 = .ok (.putfield 133, 3) := by decide +kernel
theorem dX10_init_329 : decode cX10_init 329 = .ok (.aload_n 0, 1) := by decide +kernel
theorem dX10_init_330 : decode cX10_init 330 = .ok (.bipush 40, 2) := by decide +kernel
theorem dX10_init_332 : decode cX10_init 332 = .ok (.newarray .int, 2) := by decide +kernel
theorem dX10_init_334 : decode cX10_init 334 = .ok (.putfield 136, 3) := by decide +kernel
theorem dX10_init_337 : decode cX10_init 337 = .ok (.aload_n 0, 1) := by decide +kernel
theorem dX10_init_338 : decode cX10_init 338 = .ok (.sipush 201, 3) := by decide +kernel
theorem dX10_init_341 : decode cX10_init 341 = .ok (.newarray .int, 2) := by decide +kernel
theorem dX10_init_343 : decode cX10_init 343 = .ok (.putfield 139, 3) := by decide +kernel
theorem dX10_init_346 : decode cX10_init 346 = .ok (.aload_n 0, 1) := by decide +kernel
theorem dX10_init_347 : decode cX10_init 347 = .ok (.sipush 200, 3) := by decide +kernel
theorem dX10_init_350 : decode cX10_init 350 = .ok (.newarray .int, 2) := by decide +kernel
theorem dX10_init_352 : decode cX10_init 352 = .ok (.putfield 142, 3) := by decide +kernel
theorem dX10_init_355 : decode cX10_init 355 = .ok (.aload_n 0, 1) := by decide +kernel
theorem dX10_init_356 : decode cX10_init 356 = .ok (.sipush 200, 3) := by decide +kernel
theorem dX10_init_359 : decode cX10_init 359 = .ok (.newarray .int, 2) := by decide +kernel
theorem dX10_init_361 : decode cX10_init 361 = .ok (.putfield 145, 3) := by decide +kernel
theorem dX10_init_364 : decode cX10_init 364 = .ok (.aload_n 0, 1) := by decide +kernel
theorem dX10_init_365 : decode cX10_init 365 = .ok (.sipush 6237, 3) := by decide +kernel
theorem dX10_init_368 : decode cX10_init 368 = .ok (.newarray .boolean, 2) := by decide +kernel
theorem dX10_init_370 : decode cX10_init 370 = .ok (.putfield 148, 3) := by decide +kernel
theorem dX10_init_373 : decode cX10_init 373 = .ok (.aload_n 0, 1) := by decide +kernel
theorem dX10_init_374 : decode cX10_init 374 = .ok (.sipush 500, 3) := by decide +kernel
theorem dX10_init_377 : decode cX10_init 377 = .ok (.newarray .int, 2) := by decide +kernel
theorem dX10_init_379 : decode cX10_init 379 = .ok (.putfield 151, 3) := by decide +kernel
theorem dX10_init_382 : decode cX10_init 382 = .ok (.aload_n 0, 1) := by decide +kernel
theorem dX10_init_383 : decode cX10_init 383 = .ok (.sipush 500, 3) := by decide +kernel
theorem dX10_init_386 : decode cX10_init 386 = .ok (.newarray .int, 2) := by decide +kernel
theorem dX10_init_388 : decode cX10_init 388 = .ok (.putfield 154, 3) := by decide +kernel
theorem dX10_init_391 : decode cX10_init 391 = .ok (.aload_n 0, 1) := by decide +kernel
theorem dX10_init_392 : decode cX10_init 392 = .ok (.sipush 2079, 3) := by decide +kernel
theorem dX10_init_395 : decode cX10_init 395 = .ok (.newarray .int, 2) := by decide +kernel
theorem dX10_init_397 : decode cX10_init 397 = .ok (.putfield 157, 3) := by decide +kernel
theorem dX10_init_400 : decode cX10_init 400 = .ok (.aload_n 0, 1) := by decide +kernel
theorem dX10_init_401 : decode cX10_init 401 = .ok (.sipush 2079, 3) := by decide +kernel
theorem dX10_init_404 : decode cX10_init 404 = .ok (.newarray .int, 2) := by decide +kernel
theorem dX10_init_406 : decode cX10_init 406 = .ok (.putfield 160, 3) := by decide +kernel
theorem dX10_init_409 : decode cX10_init 409 = .ok (.aload_n 0, 1) := by decide +kernel
theorem dX10_init_410 : decode cX10_init 410 = .ok (.sipush 12474, 3) := by decide +kernel
theorem dX10_init_413 : decode cX10_init 413 = .ok (.newarray .boolean, 2) := by decide +kernel
theorem dX10_init_415 : decode cX10_init 415 = .ok (.putfield 163, 3) := by decide +kernel
theorem dX10_init_418 : decode cX10_init 418 = .ok (.aload_n 0, 1) := by decide +kernel
theorem dX10_init_419 : decode cX10_init 419 = .ok (.ldc 166, 2) := by decide +kernel
theorem dX10_init_421 : decode cX10_init 421 = .ok (.newarray .int, 2) := by decide +kernel
theorem dX10_init_423 : decode cX10_init 423 = .ok (.putfield 167, 3) := by decide +kernel
theorem dX10_init_426 : decode cX10_init 426 = .ok (.aload_n 0, 1) := by decide +kernel
theorem dX10_init_427 : decode cX10_init 427 = .ok (.sipush 2079, 3) := by decide +kernel
theorem dX10_init_430 : decode cX10_init 430 = .ok (.newarray .int, 2) := by decide +kernel
theorem dX10_init_432 : decode cX10_init 432 = .ok (.putfield 170, 3) := by decide +kernel
theorem dX10_init_435 : decode cX10_init 435 = .ok (.aload_n 0, 1) := by decide +kernel
theorem dX10_init_436 : decode cX10_init 436 = .ok (.sipush 2079, 3) := by decide +kernel
theorem dX10_init_439 : decode cX10_init 439 = .ok (.newarray .int, 2) := by decide +kernel
theorem dX10_init_441 : decode cX10_init 441 = .ok (.putfield 173, 3) := by decide +kernel
theorem dX10_init_444 : decode cX10_init 444 = .ok (.aload_n 0, 1) := by decide +kernel
theorem dX10_init_445 : decode cX10_init 445 = .ok (.sipush 2079, 3) := by decide +kernel
theorem dX10_init_448 : decode cX10_init 448 = .ok (.newarray .int, 2) := by decide +kernel
theorem dX10_init_450 : decode cX10_init 450 = .ok (.putfield 176, 3) := by decide +kernel
theorem dX10_init_453 : decode cX10_init 453 = .ok (.aload_n 0, 1) := by decide +kernel
theorem dX10_init_454 : decode cX10_init 454 = .ok (.sipush 2079, 3) := by decide +kernel
theorem dX10_init_457 : decode cX10_init 457 = .ok (.newarray .int, 2) := by decide +kernel
theorem dX10_init_459 : decode cX10_init 459 = .ok (.putfield 179, 3) := by decide +kernel
theorem dX10_init_462 : decode cX10_init 462 = .ok (.aload_n 0, 1) := by decide +kernel
theorem dX10_init_463 : decode cX10_init 463 = .ok (.sipush 2079, 3) := by decide +kernel
theorem dX10_init_466 : decode cX10_init 466 = .ok (.newarray .boolean, 2) := by decide +kernel
theorem dX10_init_468 : decode cX10_init 468 = .ok (.putfield 182, 3) := by decide +kernel
theorem dX10_init_471 : decode cX10_init 471 = .ok (.aload_n 0, 1) := by decide +kernel
theorem dX10_init_472 : decode cX10_init 472 = .ok (.sipush 2079, 3) := by decide +kernel
theorem dX10_init_475 : decode cX10_init 475 = .ok (.newarray .int, 2) := by decide +kernel
theorem dX10_init_477 : decode cX10_init 477 = .ok (.putfield 185, 3) := by decide +kernel
theorem dX10_init_480 : decode cX10_init 480 = .ok (.aload_n 0, 1) := by decide +kernel
theorem dX10_init_481 : decode cX10_init 481 = .ok (.sipush 2079, 3) := by decide +kernel
theorem dX10_init_484 : decode cX10_init 484 = .ok (.newarray .int, 2) := by decide +kernel
theorem dX10_init_486 : decode cX10_init 486 = .ok (.putfield 188, 3) := by decide +kernel
theorem dX10_init_489 : decode cX10_init 489 = .ok (.aload_n 0, 1) := by decide +kernel
theorem dX10_init_490 : decode cX10_init 490 = .ok (.sipush 2079, 3) := by decide +kernel
theorem dX10_init_493 : decode cX10_init 493 = .ok (.newarray .int, 2) := by decide +kernel
theorem dX10_init_495 : decode cX10_init 495 = .ok (.putfield 191, 3) := by decide +kernel
theorem dX10_init_498 : decode cX10_init 498 = .ok (.aload_n 0, 1) := by decide +kernel
theorem dX10_init_499 : decode cX10_init 499 = .ok (.ldc 194, 2) := by decide +kernel
theorem dX10_init_501 : decode cX10_init 501 = .ok (.newarray .boolean, 2) := by decide +kernel
theorem dX10_init_503 : decode cX10_init 503 = .ok (.putfield 195, 3) := by decide +kernel
theorem dX10_init_506 : decode cX10_init 506 = .ok (.aload_n 0, 1) := by decide +kernel
theorem dX10_init_507 : decode cX10_init 507 = .ok (.ldc 194, 2) := by decide +kernel
theorem dX10_init_509 : decode cX10_init 509 = .ok (.newarray .boolean, 2) := by decide +kernel
theorem dX10_init_511 : decode cX10_init 511 = .ok (.putfield 198, 3) := by decide +kernel
theorem dX10_init_514 : decode cX10_init 514 = .ok (.aload_n 0, 1) := by decide +kernel
theorem dX10_init_515 : decode cX10_init 515 = .ok (.sipush 4158, 3) := by decide +kernel
theorem dX10_init_518 : decode cX10_init 518 = .ok (.newarray .boolean, 2) := by decide +kernel
theorem dX10_init_520 : decode cX10_init 520 = .ok (.putfield 201, 3) := by decide +kernel
theorem dX10_init_523 : decode cX10_init 523 = .ok (.aload_n 0, 1) := by decide +kernel
theorem dX10_init_524 : decode cX10_init 524 = .ok (.sipush 12474, 3) := by decide +kernel
theorem dX10_init_527 : decode cX10_init 527 = .ok (.newarray .long, 2) := by decide +kernel
theorem dX10_init_529 : decode cX10_init 529 = .ok (.putfield 204, 3) := by decide +kernel
theorem dX10_init_532 : decode cX10_init 532 = .ok (.aload_n 0, 1) := by decide +kernel
theorem dX10_init_533 : decode cX10_init 533 = .ok (.iconst 0, 1) := by decide +kernel
theorem dX10_init_534 : decode cX10_init 534 = .ok (.invokevirtual 207, 3) := by decide +kernel
theorem dX10_init_537 : decode cX10_init 537 = .ok (.return_, 1) := by decide +kernel
theorem dX10_thrown_0 : decode cX10_thrown 0 = .ok (.aload_n 0, 1) := by decide +kernel
theorem dX10_thrown_1 : decode cX10_thrown 1 = .ok (.getfield 211, 3) := by decide +kernel
theorem dX10_thrown_4 : decode cX10_thrown 4 = .ok (.ireturn, 1) := by decide +kernel
theorem dX10_raise_0 : decode cX10_raise 0 = .ok (.aload_n 0, 1) := by decide +kernel
theorem dX10_raise_1 : decode cX10_raise 1 = .ok (.iload_n 1, 1) := by decide +kernel
theorem dX10_raise_2 : decode cX10_raise 2 = .ok (.putfield 211, 3) := by decide +kernel
theorem dX10_raise_5 : decode cX10_raise 5 = .ok (.iconst 0, 1) := by decide +kernel
theorem dX10_raise_6 : decode cX10_raise 6 = .ok (.ireturn, 1) := by decide +kernel
theorem dX10_begin_0 : decode cX10_begin 0 = .ok (.aload_n 0, 1) := by decide +kernel
theorem dX10_begin_1 : decode cX10_begin 1 = .ok (.getfield 30, 3) := by decide +kernel
theorem dX10_begin_4 : decode cX10_begin 4 = .ok (.iload_n 1, 1) := by decide +kernel
theorem dX10_begin_5 : decode cX10_begin 5 = .ok (.iconst 4, 1) := by decide +kernel
theorem dX10_begin_6 : decode cX10_begin 6 = .ok (.iastore, 1) := by decide +kernel
theorem dX10_begin_7 : decode cX10_begin 7 = .ok (.aload_n 0, 1) := by decide +kernel
theorem dX10_begin_8 : decode cX10_begin 8 = .ok (.getfield 33, 3) := by decide +kernel
theorem dX10_begin_11 : decode cX10_begin 11 = .ok (.iload_n 1, 1) := by decide +kernel
theorem dX10_begin_12 : decode cX10_begin 12 = .ok (.bipush 6, 2) := by decide +kernel
theorem dX10_begin_14 : decode cX10_begin 14 = .ok (.iastore, 1) := by decide +kernel
theorem dX10_begin_15 : decode cX10_begin 15 = .ok (.aload_n 0, 1) := by decide +kernel
theorem dX10_begin_16 : decode cX10_begin 16 = .ok (.getfield 36, 3) := by decide +kernel
theorem dX10_begin_19 : decode cX10_begin 19 = .ok (.iload_n 1, 1) := by decide +kernel
theorem dX10_begin_20 : decode cX10_begin 20 = .ok (.iconst 3, 1) := by decide +kernel
theorem dX10_begin_21 : decode cX10_begin 21 = .ok (.iastore, 1) := by decide +kernel
theorem dX10_begin_22 : decode cX10_begin 22 = .ok (.aload_n 0, 1) := by decide +kernel
theorem dX10_begin_23 : decode cX10_begin 23 = .ok (.getfield 39, 3) := by decide +kernel
theorem dX10_begin_26 : decode cX10_begin 26 = .ok (.iconst 2, 1) := by decide +kernel
theorem dX10_begin_27 : decode cX10_begin 27 = .ok (.iload_n 1, 1) := by decide +kernel
theorem dX10_begin_28 : decode cX10_begin 28 = .ok (.imul, 1) := by decide +kernel
theorem dX10_begin_29 : decode cX10_begin 29 = .ok (.iconst (-1), 1) := by decide +kernel
theorem dX10_begin_30 : decode cX10_begin 30 = .ok (.iastore, 1) := by decide +kernel
theorem dX10_begin_31 : decode cX10_begin 31 = .ok (.aload_n 0, 1) := by decide +kernel
theorem dX10_begin_32 : decode cX10_begin 32 = .ok (.getfield 39, 3) := by decide +kernel
theorem dX10_begin_35 : decode cX10_begin 35 = .ok (.iconst 2, 1) := by decide +kernel
theorem dX10_begin_36 : decode cX10_begin 36 = .ok (.iload_n 1, 1) := by decide +kernel
theorem dX10_begin_37 : decode cX10_begin 37 = .ok (.imul, 1) := by decide +kernel
theorem dX10_begin_38 : decode cX10_begin 38 = .ok (.iconst 1, 1) := by decide +kernel
theorem dX10_begin_39 : decode cX10_begin 39 = .ok (.iadd, 1) := by decide +kernel
theorem dX10_begin_40 : decode cX10_begin 40 = .ok (.iconst (-1), 1) := by decide +kernel
theorem dX10_begin_41 : decode cX10_begin 41 = .ok (.iastore, 1) := by decide +kernel
theorem dX10_begin_42 : decode cX10_begin 42 = .ok (.aload_n 0, 1) := by decide +kernel
theorem dX10_begin_43 : decode cX10_begin 43 = .ok (.getfield 45, 3) := by decide +kernel
theorem dX10_begin_46 : decode cX10_begin 46 = .ok (.iload_n 1, 1) := by decide +kernel
theorem dX10_begin_47 : decode cX10_begin 47 = .ok (.iconst 0, 1) := by decide +kernel
theorem dX10_begin_48 : decode cX10_begin 48 = .ok (.iastore, 1) := by decide +kernel
theorem dX10_begin_49 : decode cX10_begin 49 = .ok (.aload_n 0, 1) := by decide +kernel
theorem dX10_begin_50 : decode cX10_begin 50 = .ok (.getfield 63, 3) := by decide +kernel
theorem dX10_begin_53 : decode cX10_begin 53 = .ok (.iload_n 1, 1) := by decide +kernel
theorem dX10_begin_54 : decode cX10_begin 54 = .ok (.iconst 0, 1) := by decide +kernel
theorem dX10_begin_55 : decode cX10_begin 55 = .ok (.iastore, 1) := by decide +kernel
theorem dX10_begin_56 : decode cX10_begin 56 = .ok (.aload_n 0, 1) := by decide +kernel
theorem dX10_begin_57 : decode cX10_begin 57 = .ok (.getfield 84, 3) := by decide +kernel
theorem dX10_begin_60 : decode cX10_begin 60 = .ok (.iload_n 1, 1) := by decide +kernel
theorem dX10_begin_61 : decode cX10_begin 61 = .ok (.iconst 0, 1) := by decide +kernel
theorem dX10_begin_62 : decode cX10_begin 62 = .ok (.iastore, 1) := by decide +kernel
theorem dX10_begin_63 : decode cX10_begin 63 = .ok (.aload_n 0, 1) := by decide +kernel
theorem dX10_begin_64 : decode cX10_begin 64 = .ok (.getfield 96, 3) := by decide +kernel
theorem dX10_begin_67 : decode cX10_begin 67 = .ok (.iload_n 1, 1) := by decide +kernel
theorem dX10_begin_68 : decode cX10_begin 68 = .ok (.sipush 500, 3) := by decide +kernel
theorem dX10_begin_71 : decode cX10_begin 71 = .ok (.iload_n 1, 1) := by decide +kernel
theorem dX10_begin_72 : decode cX10_begin 72 = .ok (.imul, 1) := by decide +kernel
theorem dX10_begin_73 : decode cX10_begin 73 = .ok (.iastore, 1) := by decide +kernel
theorem dX10_begin_74 : decode cX10_begin 74 = .ok (.aload_n 0, 1) := by decide +kernel
theorem dX10_begin_75 : decode cX10_begin 75 = .ok (.getfield 105, 3) := by decide +kernel
theorem dX10_begin_78 : decode cX10_begin 78 = .ok (.iload_n 1, 1) := by decide +kernel
theorem dX10_begin_79 : decode cX10_begin 79 = .ok (.sipush 200, 3) := by decide +kernel
theorem dX10_begin_82 : decode cX10_begin 82 = .ok (.iload_n 1, 1) := by decide +kernel
theorem dX10_begin_83 : decode cX10_begin 83 = .ok (.imul, 1) := by decide +kernel
theorem dX10_begin_84 : decode cX10_begin 84 = .ok (.iastore, 1) := by decide +kernel
theorem dX10_begin_85 : decode cX10_begin 85 = .ok (.return_, 1) := by decide +kernel
theorem dX10_feed_0 : decode cX10_feed 0 = .ok (.aload_n 0, 1) := by decide +kernel
theorem dX10_feed_1 : decode cX10_feed 1 = .ok (.getfield 214, 3) := by decide +kernel
theorem dX10_feed_4 : decode cX10_feed 4 = .ok (.bipush 20, 2) := by decide +kernel
theorem dX10_feed_6 : decode cX10_feed 6 = .ok (.iadd, 1) := by decide +kernel
theorem dX10_feed_7 : decode cX10_feed 7 = .ok (.sipush 2000, 3) := by decide +kernel
theorem dX10_feed_10 : decode cX10_feed 10 = .ok (.if_icmp .le 5, 3) := by decide +kernel
theorem dX10_feed_13 : decode cX10_feed 13 = .ok (.iconst (-1), 1) := by decide +kernel
theorem dX10_feed_14 : decode cX10_feed 14 = .ok (.ireturn, 1) := by decide +kernel
theorem dX10_feed_15 : decode cX10_feed 15 = .ok (.aload_n 0, 1) := by decide +kernel
theorem dX10_feed_16 : decode cX10_feed 16 = .ok (.iload_n 1, 1) := by decide +kernel
theorem dX10_feed_17 : decode cX10_feed 17 = .ok (.invokevirtual 217, 3) := by decide +kernel
theorem dX10_feed_20 : decode cX10_feed 20 = .ok (.aload_n 0, 1) := by decide +kernel
theorem dX10_feed_21 : decode cX10_feed 21 = .ok (.iload_n 2, 1) := by decide +kernel
theorem dX10_feed_22 : decode cX10_feed 22 = .ok (.invokevirtual 217, 3) := by decide +kernel
theorem dX10_feed_25 : decode cX10_feed 25 = .ok (.aload_n 0, 1) := by decide +kernel
theorem dX10_feed_26 : decode cX10_feed 26 = .ok (.iload_n 3, 1) := by decide +kernel
theorem dX10_feed_27 : decode cX10_feed 27 = .ok (.invokevirtual 217, 3) := by decide +kernel
theorem dX10_feed_30 : decode cX10_feed 30 = .ok (.aload_n 0, 1) := by decide +kernel
theorem dX10_feed_31 : decode cX10_feed 31 = .ok (.iload 4, 2) := by decide +kernel
theorem dX10_feed_33 : decode cX10_feed 33 = .ok (.invokevirtual 217, 3) := by decide +kernel
theorem dX10_feed_36 : decode cX10_feed 36 = .ok (.aload_n 0, 1) := by decide +kernel
theorem dX10_feed_37 : decode cX10_feed 37 = .ok (.iload 5, 2) := by decide +kernel
theorem dX10_feed_39 : decode cX10_feed 39 = .ok (.invokevirtual 217, 3) := by decide +kernel
theorem dX10_feed_42 : decode cX10_feed 42 = .ok (.aload_n 0, 1) := by decide +kernel
theorem dX10_feed_43 : decode cX10_feed 43 = .ok (.getfield 214, 3) := by decide +kernel
theorem dX10_feed_46 : decode cX10_feed 46 = .ok (.ireturn, 1) := by decide +kernel
theorem dX10_typed_0 : decode cX10_typed 0 = .ok (.iconst 0, 1) := by decide +kernel
theorem dX10_typed_1 : decode cX10_typed 1 = .ok (.istore_n 2, 1) := by decide +kernel
theorem dX10_typed_2 : decode cX10_typed 2 = .ok (.iload_n 2, 1) := by decide +kernel
theorem dX10_typed_3 : decode cX10_typed 3 = .ok (.iconst 4, 1) := by decide +kernel
theorem dX10_typed_4 : decode cX10_typed 4 = .ok (.if_icmp .ge 41, 3) := by decide +kernel
theorem dX10_typed_7 : decode cX10_typed 7 = .ok (.aload_n 0, 1) := by decide +kernel
theorem dX10_typed_8 : decode cX10_typed 8 = .ok (.getfield 7, 3) := by decide +kernel
theorem dX10_typed_11 : decode cX10_typed 11 = .ok (.aload_n 0, 1) := by decide +kernel
theorem dX10_typed_12 : decode cX10_typed 12 = .ok (.getfield 214, 3) := by decide +kernel
theorem dX10_typed_15 : decode cX10_typed 15 = .ok (.iload_n 1, 1) := by decide +kernel
theorem dX10_typed_16 : decode cX10_typed 16 = .ok (.bipush 24, 2) := by decide +kernel
theorem dX10_typed_18 : decode cX10_typed 18 = .ok (.bipush 8, 2) := by decide +kernel
theorem dX10_typed_20 : decode cX10_typed 20 = .ok (.iload_n 2, 1) := by decide +kernel
theorem dX10_typed_21 : decode cX10_typed 21 = .ok (.imul, 1) := by decide +kernel
theorem dX10_typed_22 : decode cX10_typed 22 = .ok (.isub, 1) := by decide +kernel
theorem dX10_typed_23 : decode cX10_typed 23 = .ok (.ishr, 1) := by decide +kernel
theorem dX10_typed_24 : decode cX10_typed 24 = .ok (.sipush 255, 3) := by decide +kernel
theorem dX10_typed_27 : decode cX10_typed 27 = .ok (.iand, 1) := by decide +kernel
theorem dX10_typed_28 : decode cX10_typed 28 = .ok (.iastore, 1) := by decide +kernel
theorem dX10_typed_29 : decode cX10_typed 29 = .ok (.aload_n 0, 1) := by decide +kernel
theorem dX10_typed_30 : decode cX10_typed 30 = .ok (.dup, 1) := by decide +kernel
theorem dX10_typed_31 : decode cX10_typed 31 = .ok (.getfield 214, 3) := by decide +kernel
theorem dX10_typed_34 : decode cX10_typed 34 = .ok (.iconst 1, 1) := by decide +kernel
theorem dX10_typed_35 : decode cX10_typed 35 = .ok (.iadd, 1) := by decide +kernel
theorem dX10_typed_36 : decode cX10_typed 36 = .ok (.putfield 214, 3) := by decide +kernel
theorem dX10_typed_39 : decode cX10_typed 39 = .ok (.iinc 2 1, 3) := by decide +kernel
theorem dX10_typed_42 : decode cX10_typed 42 = .ok (.goto (-40), 3) := by decide +kernel
theorem dX10_typed_45 : decode cX10_typed 45 = .ok (.return_, 1) := by decide +kernel
theorem dX10_back_0 : decode cX10_back 0 = .ok (.iload_n 1, 1) := by decide +kernel
theorem dX10_back_1 : decode cX10_back 1 = .ok (.ifCond .lt 11, 3) := by decide +kernel
theorem dX10_back_4 : decode cX10_back 4 = .ok (.iload_n 1, 1) := by decide +kernel
theorem dX10_back_5 : decode cX10_back 5 = .ok (.aload_n 0, 1) := by decide +kernel
theorem dX10_back_6 : decode cX10_back 6 = .ok (.getfield 214, 3) := by decide +kernel
theorem dX10_back_9 : decode cX10_back 9 = .ok (.if_icmp .le 5, 3) := by decide +kernel
theorem dX10_back_12 : decode cX10_back 12 = .ok (.iconst (-1), 1) := by decide +kernel
theorem dX10_back_13 : decode cX10_back 13 = .ok (.ireturn, 1) := by decide +kernel
theorem dX10_back_14 : decode cX10_back 14 = .ok (.aload_n 0, 1) := by decide +kernel
theorem dX10_back_15 : decode cX10_back 15 = .ok (.aload_n 0, 1) := by decide +kernel
theorem dX10_back_16 : decode cX10_back 16 = .ok (.getfield 214, 3) := by decide +kernel
theorem dX10_back_19 : decode cX10_back 19 = .ok (.iload_n 1, 1) := by decide +kernel
theorem dX10_back_20 : decode cX10_back 20 = .ok (.isub, 1) := by decide +kernel
theorem dX10_back_21 : decode cX10_back 21 = .ok (.putfield 214, 3) := by decide +kernel
theorem dX10_back_24 : decode cX10_back 24 = .ok (.aload_n 0, 1) := by decide +kernel
theorem dX10_back_25 : decode cX10_back 25 = .ok (.getfield 214, 3) := by decide +kernel
theorem dX10_back_28 : decode cX10_back 28 = .ok (.ireturn, 1) := by decide +kernel
theorem dX10_byteAt_0 : decode cX10_byteAt 0 = .ok (.iload_n 1, 1) := by decide +kernel
theorem dX10_byteAt_1 : decode cX10_byteAt 1 = .ok (.aload_n 0, 1) := by decide +kernel
theorem dX10_byteAt_2 : decode cX10_byteAt 2 = .ok (.getfield 214, 3) := by decide +kernel
theorem dX10_byteAt_5 : decode cX10_byteAt 5 = .ok (.if_icmp .ge 12, 3) := by decide +kernel
theorem dX10_byteAt_8 : decode cX10_byteAt 8 = .ok (.aload_n 0, 1) := by decide +kernel
theorem dX10_byteAt_9 : decode cX10_byteAt 9 = .ok (.getfield 7, 3) := by decide +kernel
theorem dX10_byteAt_12 : decode cX10_byteAt 12 = .ok (.iload_n 1, 1) := by decide +kernel
theorem dX10_byteAt_13 : decode cX10_byteAt 13 = .ok (.iaload, 1) := by decide +kernel
theorem dX10_byteAt_14 : decode cX10_byteAt 14 = .ok (.goto 4, 3) := by decide +kernel
theorem dX10_byteAt_17 : decode cX10_byteAt 17 = .ok (.iconst 0, 1) := by decide +kernel
theorem dX10_byteAt_18 : decode cX10_byteAt 18 = .ok (.ireturn, 1) := by decide +kernel
theorem dX10_isLetter_0 : decode cX10_isLetter 0 = .ok (.aload_n 0, 1) := by decide +kernel
theorem dX10_isLetter_1 : decode cX10_isLetter 1 = .ok (.iload_n 1, 1) := by decide +kernel
theorem dX10_isLetter_2 : decode cX10_isLetter 2 = .ok (.invokevirtual 220, 3) := by decide +kernel
theorem dX10_isLetter_5 : decode cX10_isLetter 5 = .ok (.bipush 97, 2) := by decide +kernel
theorem dX10_isLetter_7 : decode cX10_isLetter 7 = .ok (.if_icmp .lt 17, 3) := by decide +kernel
theorem dX10_isLetter_10 : decode cX10_isLetter 10 = .ok (.aload_n 0, 1) := by decide +kernel
theorem dX10_isLetter_11 : decode cX10_isLetter 11 = .ok (.iload_n 1, 1) := by decide +kernel
theorem dX10_isLetter_12 : decode cX10_isLetter 12 = .ok (.invokevirtual 220, 3) := by decide +kernel
theorem dX10_isLetter_15 : decode cX10_isLetter 15 = .ok (.bipush 122, 2) := by decide +kernel
theorem dX10_isLetter_17 : decode cX10_isLetter 17 = .ok (.if_icmp .gt 7, 3) := by decide +kernel
theorem dX10_isLetter_20 : decode cX10_isLetter 20 = .ok (.iconst 1, 1) := by decide +kernel
theorem dX10_isLetter_21 : decode cX10_isLetter 21 = .ok (.goto 4, 3) := by decide +kernel
theorem dX10_isLetter_24 : decode cX10_isLetter 24 = .ok (.iconst 0, 1) := by decide +kernel
theorem dX10_isLetter_25 : decode cX10_isLetter 25 = .ok (.ireturn, 1) := by decide +kernel
theorem dX10_isDigit_0 : decode cX10_isDigit 0 = .ok (.aload_n 0, 1) := by decide +kernel
theorem dX10_isDigit_1 : decode cX10_isDigit 1 = .ok (.iload_n 1, 1) := by decide +kernel
theorem dX10_isDigit_2 : decode cX10_isDigit 2 = .ok (.invokevirtual 220, 3) := by decide +kernel
theorem dX10_isDigit_5 : decode cX10_isDigit 5 = .ok (.bipush 48, 2) := by decide +kernel
theorem dX10_isDigit_7 : decode cX10_isDigit 7 = .ok (.if_icmp .lt 17, 3) := by decide +kernel
theorem dX10_isDigit_10 : decode cX10_isDigit 10 = .ok (.aload_n 0, 1) := by decide +kernel
theorem dX10_isDigit_11 : decode cX10_isDigit 11 = .ok (.iload_n 1, 1) := by decide +kernel
theorem dX10_isDigit_12 : decode cX10_isDigit 12 = .ok (.invokevirtual 220, 3) := by decide +kernel
theorem dX10_isDigit_15 : decode cX10_isDigit 15 = .ok (.bipush 57, 2) := by decide +kernel
theorem dX10_isDigit_17 : decode cX10_isDigit 17 = .ok (.if_icmp .gt 7, 3) := by decide +kernel
theorem dX10_isDigit_20 : decode cX10_isDigit 20 = .ok (.iconst 1, 1) := by decide +kernel
theorem dX10_isDigit_21 : decode cX10_isDigit 21 = .ok (.goto 4, 3) := by decide +kernel
theorem dX10_isDigit_24 : decode cX10_isDigit 24 = .ok (.iconst 0, 1) := by decide +kernel
theorem dX10_isDigit_25 : decode cX10_isDigit 25 = .ok (.ireturn, 1) := by decide +kernel
theorem dX10_token_0 : decode cX10_token 0 = .ok (.aload_n 0, 1) := by decide +kernel
theorem dX10_token_1 : decode cX10_token 1 = .ok (.getfield 13, 3) := by decide +kernel
theorem dX10_token_4 : decode cX10_token 4 = .ok (.aload_n 0, 1) := by decide +kernel
theorem dX10_token_5 : decode cX10_token 5 = .ok (.getfield 224, 3) := by decide +kernel
theorem dX10_token_8 : decode cX10_token 8 = .ok (.iload_n 1, 1) := by decide +kernel
theorem dX10_token_9 : decode cX10_token 9 = .ok (.iastore, 1) := by decide +kernel
theorem dX10_token_10 : decode cX10_token 10 = .ok (.aload_n 0, 1) := by decide +kernel
theorem dX10_token_11 : decode cX10_token 11 = .ok (.getfield 16, 3) := by decide +kernel
theorem dX10_token_14 : decode cX10_token 14 = .ok (.aload_n 0, 1) := by decide +kernel
theorem dX10_token_15 : decode cX10_token 15 = .ok (.getfield 224, 3) := by decide +kernel
theorem dX10_token_18 : decode cX10_token 18 = .ok (.iload_n 2, 1) := by decide +kernel
theorem dX10_token_19 : decode cX10_token 19 = .ok (.iastore, 1) := by decide +kernel
theorem dX10_token_20 : decode cX10_token 20 = .ok (.aload_n 0, 1) := by decide +kernel
theorem dX10_token_21 : decode cX10_token 21 = .ok (.getfield 19, 3) := by decide +kernel
theorem dX10_token_24 : decode cX10_token 24 = .ok (.aload_n 0, 1) := by decide +kernel
theorem dX10_token_25 : decode cX10_token 25 = .ok (.getfield 224, 3) := by decide +kernel
theorem dX10_token_28 : decode cX10_token 28 = .ok (.iload_n 3, 1) := by decide +kernel
theorem dX10_token_29 : decode cX10_token 29 = .ok (.iastore, 1) := by decide +kernel
theorem dX10_token_30 : decode cX10_token 30 = .ok (.aload_n 0, 1) := by decide +kernel
theorem dX10_token_31 : decode cX10_token 31 = .ok (.dup, 1) := by decide +kernel
theorem dX10_token_32 : decode cX10_token 32 = .ok (.getfield 224, 3) := by decide +kernel
theorem dX10_token_35 : decode cX10_token 35 = .ok (.iconst 1, 1) := by decide +kernel
theorem dX10_token_36 : decode cX10_token 36 = .ok (.iadd, 1) := by decide +kernel
theorem dX10_token_37 : decode cX10_token 37 = .ok (.putfield 224, 3) := by decide +kernel
theorem dX10_token_40 : decode cX10_token 40 = .ok (.return_, 1) := by decide +kernel
theorem dX10_wordOf_0 : decode cX10_wordOf 0 = .ok (.lload_n 0, 1) := by decide +kernel
theorem dX10_wordOf_1 : decode cX10_wordOf 1 = .ok (.ldc2_w 227, 3) := by decide +kernel
theorem dX10_wordOf_4 : decode cX10_wordOf 4 = .ok (.lcmp, 1) := by decide +kernel
theorem dX10_wordOf_5 : decode cX10_wordOf 5 = .ok (.ifCond .ne 5, 3) := by decide +kernel
theorem dX10_wordOf_8 : decode cX10_wordOf 8 = .ok (.iconst 0, 1) := by decide +kernel
theorem dX10_wordOf_9 : decode cX10_wordOf 9 = .ok (.ireturn, 1) := by decide +kernel
theorem dX10_wordOf_10 : decode cX10_wordOf 10 = .ok (.lload_n 0, 1) := by decide +kernel
theorem dX10_wordOf_11 : decode cX10_wordOf 11 = .ok (.ldc2_w 229, 3) := by decide +kernel
theorem dX10_wordOf_14 : decode cX10_wordOf 14 = .ok (.lcmp, 1) := by decide +kernel
theorem dX10_wordOf_15 : decode cX10_wordOf 15 = .ok (.ifCond .ne 5, 3) := by decide +kernel
theorem dX10_wordOf_18 : decode cX10_wordOf 18 = .ok (.iconst 1, 1) := by decide +kernel
theorem dX10_wordOf_19 : decode cX10_wordOf 19 = .ok (.ireturn, 1) := by decide +kernel
theorem dX10_wordOf_20 : decode cX10_wordOf 20 = .ok (.lload_n 0, 1) := by decide +kernel
theorem dX10_wordOf_21 : decode cX10_wordOf 21 = .ok (.ldc2_w 231, 3) := by decide +kernel
theorem dX10_wordOf_24 : decode cX10_wordOf 24 = .ok (.lcmp, 1) := by decide +kernel
theorem dX10_wordOf_25 : decode cX10_wordOf 25 = .ok (.ifCond .ne 5, 3) := by decide +kernel
theorem dX10_wordOf_28 : decode cX10_wordOf 28 = .ok (.iconst 2, 1) := by decide +kernel
theorem dX10_wordOf_29 : decode cX10_wordOf 29 = .ok (.ireturn, 1) := by decide +kernel
theorem dX10_wordOf_30 : decode cX10_wordOf 30 = .ok (.lload_n 0, 1) := by decide +kernel
theorem dX10_wordOf_31 : decode cX10_wordOf 31 = .ok (.ldc2_w 233, 3) := by decide +kernel
theorem dX10_wordOf_34 : decode cX10_wordOf 34 = .ok (.lcmp, 1) := by decide +kernel
theorem dX10_wordOf_35 : decode cX10_wordOf 35 = .ok (.ifCond .ne 5, 3) := by decide +kernel
theorem dX10_wordOf_38 : decode cX10_wordOf 38 = .ok (.iconst 3, 1) := by decide +kernel
theorem dX10_wordOf_39 : decode cX10_wordOf 39 = .ok (.ireturn, 1) := by decide +kernel
theorem dX10_wordOf_40 : decode cX10_wordOf 40 = .ok (.lload_n 0, 1) := by decide +kernel
theorem dX10_wordOf_41 : decode cX10_wordOf 41 = .ok (.ldc2_w 235, 3) := by decide +kernel
theorem dX10_wordOf_44 : decode cX10_wordOf 44 = .ok (.lcmp, 1) := by decide +kernel
theorem dX10_wordOf_45 : decode cX10_wordOf 45 = .ok (.ifCond .ne 5, 3) := by decide +kernel
theorem dX10_wordOf_48 : decode cX10_wordOf 48 = .ok (.iconst 4, 1) := by decide +kernel
theorem dX10_wordOf_49 : decode cX10_wordOf 49 = .ok (.ireturn, 1) := by decide +kernel
theorem dX10_wordOf_50 : decode cX10_wordOf 50 = .ok (.lload_n 0, 1) := by decide +kernel
theorem dX10_wordOf_51 : decode cX10_wordOf 51 = .ok (.ldc2_w 237, 3) := by decide +kernel
theorem dX10_wordOf_54 : decode cX10_wordOf 54 = .ok (.lcmp, 1) := by decide +kernel
theorem dX10_wordOf_55 : decode cX10_wordOf 55 = .ok (.ifCond .ne 5, 3) := by decide +kernel
theorem dX10_wordOf_58 : decode cX10_wordOf 58 = .ok (.iconst 5, 1) := by decide +kernel
theorem dX10_wordOf_59 : decode cX10_wordOf 59 = .ok (.ireturn, 1) := by decide +kernel
theorem dX10_wordOf_60 : decode cX10_wordOf 60 = .ok (.lload_n 0, 1) := by decide +kernel
theorem dX10_wordOf_61 : decode cX10_wordOf 61 = .ok (.ldc2_w 239, 3) := by decide +kernel
theorem dX10_wordOf_64 : decode cX10_wordOf 64 = .ok (.lcmp, 1) := by decide +kernel
theorem dX10_wordOf_65 : decode cX10_wordOf 65 = .ok (.ifCond .ne 6, 3) := by decide +kernel
theorem dX10_wordOf_68 : decode cX10_wordOf 68 = .ok (.bipush 6, 2) := by decide +kernel
theorem dX10_wordOf_70 : decode cX10_wordOf 70 = .ok (.ireturn, 1) := by decide +kernel
theorem dX10_wordOf_71 : decode cX10_wordOf 71 = .ok (.lload_n 0, 1) := by decide +kernel
theorem dX10_wordOf_72 : decode cX10_wordOf 72 = .ok (.ldc2_w 241, 3) := by decide +kernel
theorem dX10_wordOf_75 : decode cX10_wordOf 75 = .ok (.lcmp, 1) := by decide +kernel
theorem dX10_wordOf_76 : decode cX10_wordOf 76 = .ok (.ifCond .ne 6, 3) := by decide +kernel
theorem dX10_wordOf_79 : decode cX10_wordOf 79 = .ok (.bipush 7, 2) := by decide +kernel
theorem dX10_wordOf_81 : decode cX10_wordOf 81 = .ok (.ireturn, 1) := by decide +kernel
theorem dX10_wordOf_82 : decode cX10_wordOf 82 = .ok (.lload_n 0, 1) := by decide +kernel
theorem dX10_wordOf_83 : decode cX10_wordOf 83 = .ok (.ldc2_w 243, 3) := by decide +kernel
theorem dX10_wordOf_86 : decode cX10_wordOf 86 = .ok (.lcmp, 1) := by decide +kernel
theorem dX10_wordOf_87 : decode cX10_wordOf 87 = .ok (.ifCond .ne 6, 3) := by decide +kernel
theorem dX10_wordOf_90 : decode cX10_wordOf 90 = .ok (.bipush 8, 2) := by decide +kernel
theorem dX10_wordOf_92 : decode cX10_wordOf 92 = .ok (.ireturn, 1) := by decide +kernel
theorem dX10_wordOf_93 : decode cX10_wordOf 93 = .ok (.lload_n 0, 1) := by decide +kernel
theorem dX10_wordOf_94 : decode cX10_wordOf 94 = .ok (.ldc2_w 245, 3) := by decide +kernel
theorem dX10_wordOf_97 : decode cX10_wordOf 97 = .ok (.lcmp, 1) := by decide +kernel
theorem dX10_wordOf_98 : decode cX10_wordOf 98 = .ok (.ifCond .ne 6, 3) := by decide +kernel
theorem dX10_wordOf_101 : decode cX10_wordOf 101 = .ok (.bipush 9, 2) := by decide +kernel
theorem dX10_wordOf_103 : decode cX10_wordOf 103 = .ok (.ireturn, 1) := by decide +kernel
theorem dX10_wordOf_104 : decode cX10_wordOf 104 = .ok (.lload_n 0, 1) := by decide +kernel
theorem dX10_wordOf_105 : decode cX10_wordOf 105 = .ok (.ldc2_w 247, 3) := by decide +kernel
theorem dX10_wordOf_108 : decode cX10_wordOf 108 = .ok (.lcmp, 1) := by decide +kernel
theorem dX10_wordOf_109 : decode cX10_wordOf 109 = .ok (.ifCond .ne 6, 3) := by decide +kernel
theorem dX10_wordOf_112 : decode cX10_wordOf 112 = .ok (.bipush 10, 2) := by decide +kernel
theorem dX10_wordOf_114 : decode cX10_wordOf 114 = .ok (.ireturn, 1) := by decide +kernel
theorem dX10_wordOf_115 : decode cX10_wordOf 115 = .ok (.lload_n 0, 1) := by decide +kernel
theorem dX10_wordOf_116 : decode cX10_wordOf 116 = .ok (.ldc2_w 249, 3) := by decide +kernel
theorem dX10_wordOf_119 : decode cX10_wordOf 119 = .ok (.lcmp, 1) := by decide +kernel
theorem dX10_wordOf_120 : decode cX10_wordOf 120 = .ok (.ifCond .ne 6, 3) := by decide +kernel
theorem dX10_wordOf_123 : decode cX10_wordOf 123 = .ok (.bipush 11, 2) := by decide +kernel
theorem dX10_wordOf_125 : decode cX10_wordOf 125 = .ok (.ireturn, 1) := by decide +kernel
theorem dX10_wordOf_126 : decode cX10_wordOf 126 = .ok (.lload_n 0, 1) := by decide +kernel
theorem dX10_wordOf_127 : decode cX10_wordOf 127 = .ok (.ldc2_w 251, 3) := by decide +kernel
theorem dX10_wordOf_130 : decode cX10_wordOf 130 = .ok (.lcmp, 1) := by decide +kernel
theorem dX10_wordOf_131 : decode cX10_wordOf 131 = .ok (.ifCond .ne 6, 3) := by decide +kernel
theorem dX10_wordOf_134 : decode cX10_wordOf 134 = .ok (.bipush 12, 2) := by decide +kernel
theorem dX10_wordOf_136 : decode cX10_wordOf 136 = .ok (.ireturn, 1) := by decide +kernel
theorem dX10_wordOf_137 : decode cX10_wordOf 137 = .ok (.lload_n 0, 1) := by decide +kernel
theorem dX10_wordOf_138 : decode cX10_wordOf 138 = .ok (.ldc2_w 253, 3) := by decide +kernel
theorem dX10_wordOf_141 : decode cX10_wordOf 141 = .ok (.lcmp, 1) := by decide +kernel
theorem dX10_wordOf_142 : decode cX10_wordOf 142 = .ok (.ifCond .ne 6, 3) := by decide +kernel
theorem dX10_wordOf_145 : decode cX10_wordOf 145 = .ok (.bipush 13, 2) := by decide +kernel
theorem dX10_wordOf_147 : decode cX10_wordOf 147 = .ok (.ireturn, 1) := by decide +kernel
theorem dX10_wordOf_148 : decode cX10_wordOf 148 = .ok (.lload_n 0, 1) := by decide +kernel
theorem dX10_wordOf_149 : decode cX10_wordOf 149 = .ok (.ldc2_w 255, 3) := by decide +kernel
theorem dX10_wordOf_152 : decode cX10_wordOf 152 = .ok (.lcmp, 1) := by decide +kernel
theorem dX10_wordOf_153 : decode cX10_wordOf 153 = .ok (.ifCond .ne 6, 3) := by decide +kernel
theorem dX10_wordOf_156 : decode cX10_wordOf 156 = .ok (.bipush 14, 2) := by decide +kernel
theorem dX10_wordOf_158 : decode cX10_wordOf 158 = .ok (.ireturn, 1) := by decide +kernel
theorem dX10_wordOf_159 : decode cX10_wordOf 159 = .ok (.lload_n 0, 1) := by decide +kernel
theorem dX10_wordOf_160 : decode cX10_wordOf 160 = .ok (.ldc2_w 257, 3) := by decide +kernel
theorem dX10_wordOf_163 : decode cX10_wordOf 163 = .ok (.lcmp, 1) := by decide +kernel
theorem dX10_wordOf_164 : decode cX10_wordOf 164 = .ok (.ifCond .ne 6, 3) := by decide +kernel
theorem dX10_wordOf_167 : decode cX10_wordOf 167 = .ok (.bipush 15, 2) := by decide +kernel
theorem dX10_wordOf_169 : decode cX10_wordOf 169 = .ok (.ireturn, 1) := by decide +kernel
theorem dX10_wordOf_170 : decode cX10_wordOf 170 = .ok (.lload_n 0, 1) := by decide +kernel
theorem dX10_wordOf_171 : decode cX10_wordOf 171 = .ok (.ldc2_w 259, 3) := by decide +kernel
theorem dX10_wordOf_174 : decode cX10_wordOf 174 = .ok (.lcmp, 1) := by decide +kernel
theorem dX10_wordOf_175 : decode cX10_wordOf 175 = .ok (.ifCond .ne 8, 3) := by decide +kernel
theorem dX10_wordOf_178 : decode cX10_wordOf 178 = .ok (.bipush 16, 2) := by decide +kernel
theorem dX10_wordOf_180 : decode cX10_wordOf 180 = .ok (.goto 4, 3) := by decide +kernel
theorem dX10_wordOf_183 : decode cX10_wordOf 183 = .ok (.iconst (-1), 1) := by decide +kernel
theorem dX10_wordOf_184 : decode cX10_wordOf 184 = .ok (.ireturn, 1) := by decide +kernel
theorem dX10_signAt_0 : decode cX10_signAt 0 = .ok (.aload_n 0, 1) := by decide +kernel
theorem dX10_signAt_1 : decode cX10_signAt 1 = .ok (.iload_n 1, 1) := by decide +kernel
theorem dX10_signAt_2 : decode cX10_signAt 2 = .ok (.invokevirtual 220, 3) := by decide +kernel
theorem dX10_signAt_5 : decode cX10_signAt 5 = .ok (.istore_n 2, 1) := by decide +kernel
theorem dX10_signAt_6 : decode cX10_signAt 6 = .ok (.aload_n 0, 1) := by decide +kernel
theorem dX10_signAt_7 : decode cX10_signAt 7 = .ok (.iload_n 1, 1) := by decide +kernel
theorem dX10_signAt_8 : decode cX10_signAt 8 = .ok (.iconst 1, 1) := by decide +kernel
theorem dX10_signAt_9 : decode cX10_signAt 9 = .ok (.iadd, 1) := by decide +kernel
theorem dX10_signAt_10 : decode cX10_signAt 10 = .ok (.invokevirtual 220, 3) := by decide +kernel
theorem dX10_signAt_13 : decode cX10_signAt 13 = .ok (.bipush 61, 2) := by decide +kernel
theorem dX10_signAt_15 : decode cX10_signAt 15 = .ok (.if_icmp .ne 7, 3) := by decide +kernel
theorem dX10_signAt_18 : decode cX10_signAt 18 = .ok (.iconst 1, 1) := by decide +kernel
theorem dX10_signAt_19 : decode cX10_signAt 19 = .ok (.goto 4, 3) := by decide +kernel
theorem dX10_signAt_22 : decode cX10_signAt 22 = .ok (.iconst 0, 1) := by decide +kernel
theorem dX10_signAt_23 : decode cX10_signAt 23 = .ok (.istore_n 3, 1) := by decide +kernel
theorem dX10_signAt_24 : decode cX10_signAt 24 = .ok (.iload_n 2, 1) := by decide +kernel
theorem dX10_signAt_25 : decode cX10_signAt 25 = .ok (.bipush 61, 2) := by decide +kernel
theorem dX10_signAt_27 : decode cX10_signAt 27 = .ok (.if_icmp .ne 15, 3) := by decide +kernel
theorem dX10_signAt_30 : decode cX10_signAt 30 = .ok (.iload_n 3, 1) := by decide +kernel
theorem dX10_signAt_31 : decode cX10_signAt 31 = .ok (.ifCond .eq 9, 3) := by decide +kernel
theorem dX10_signAt_34 : decode cX10_signAt 34 = .ok (.sipush 300, 3) := by decide +kernel
theorem dX10_signAt_37 : decode cX10_signAt 37 = .ok (.goto 4, 3) := by decide +kernel
theorem dX10_signAt_40 : decode cX10_signAt 40 = .ok (.iconst 0, 1) := by decide +kernel
theorem dX10_signAt_41 : decode cX10_signAt 41 = .ok (.ireturn, 1) := by decide +kernel
theorem dX10_signAt_42 : decode cX10_signAt 42 = .ok (.iload_n 2, 1) := by decide +kernel
theorem dX10_signAt_43 : decode cX10_signAt 43 = .ok (.bipush 33, 2) := by decide +kernel
theorem dX10_signAt_45 : decode cX10_signAt 45 = .ok (.if_icmp .ne 15, 3) := by decide +kernel
theorem dX10_signAt_48 : decode cX10_signAt 48 = .ok (.iload_n 3, 1) := by decide +kernel
theorem dX10_signAt_49 : decode cX10_signAt 49 = .ok (.ifCond .eq 9, 3) := by decide +kernel
theorem dX10_signAt_52 : decode cX10_signAt 52 = .ok (.sipush 301, 3) := by decide +kernel
theorem dX10_signAt_55 : decode cX10_signAt 55 = .ok (.goto 4, 3) := by decide +kernel
theorem dX10_signAt_58 : decode cX10_signAt 58 = .ok (.iconst 0, 1) := by decide +kernel
theorem dX10_signAt_59 : decode cX10_signAt 59 = .ok (.ireturn, 1) := by decide +kernel
theorem dX10_signAt_60 : decode cX10_signAt 60 = .ok (.iload_n 2, 1) := by decide +kernel
theorem dX10_signAt_61 : decode cX10_signAt 61 = .ok (.bipush 60, 2) := by decide +kernel
theorem dX10_signAt_63 : decode cX10_signAt 63 = .ok (.if_icmp .ne 15, 3) := by decide +kernel
theorem dX10_signAt_66 : decode cX10_signAt 66 = .ok (.iload_n 3, 1) := by decide +kernel
theorem dX10_signAt_67 : decode cX10_signAt 67 = .ok (.ifCond .eq 9, 3) := by decide +kernel
theorem dX10_signAt_70 : decode cX10_signAt 70 = .ok (.sipush 302, 3) := by decide +kernel
theorem dX10_signAt_73 : decode cX10_signAt 73 = .ok (.goto 4, 3) := by decide +kernel
theorem dX10_signAt_76 : decode cX10_signAt 76 = .ok (.iload_n 2, 1) := by decide +kernel
theorem dX10_signAt_77 : decode cX10_signAt 77 = .ok (.ireturn, 1) := by decide +kernel
theorem dX10_signAt_78 : decode cX10_signAt 78 = .ok (.iload_n 2, 1) := by decide +kernel
theorem dX10_signAt_79 : decode cX10_signAt 79 = .ok (.bipush 59, 2) := by decide +kernel
theorem dX10_signAt_81 : decode cX10_signAt 81 = .ok (.if_icmp .eq 39, 3) := by decide +kernel
theorem dX10_signAt_84 : decode cX10_signAt 84 = .ok (.iload_n 2, 1) := by decide +kernel
theorem dX10_signAt_85 : decode cX10_signAt 85 = .ok (.bipush 43, 2) := by decide +kernel
theorem dX10_signAt_87 : decode cX10_signAt 87 = .ok (.if_icmp .eq 33, 3) := by decide +kernel
theorem dX10_signAt_90 : decode cX10_signAt 90 = .ok (.iload_n 2, 1) := by decide +kernel
theorem dX10_signAt_91 : decode cX10_signAt 91 = .ok (.bipush 45, 2) := by decide +kernel
theorem dX10_signAt_93 : decode cX10_signAt 93 = .ok (.if_icmp .eq 27, 3) := by decide +kernel
theorem dX10_signAt_96 : decode cX10_signAt 96 = .ok (.iload_n 2, 1) := by decide +kernel
theorem dX10_signAt_97 : decode cX10_signAt 97 = .ok (.bipush 42, 2) := by decide +kernel
theorem dX10_signAt_99 : decode cX10_signAt 99 = .ok (.if_icmp .eq 21, 3) := by decide +kernel
theorem dX10_signAt_102 : decode cX10_signAt 102 = .ok (.iload_n 2, 1) := by decide +kernel
theorem dX10_signAt_103 : decode cX10_signAt 103 = .ok (.bipush 47, 2) := by decide +kernel
theorem dX10_signAt_105 : decode cX10_signAt 105 = .ok (.if_icmp .eq 15, 3) := by decide +kernel
theorem dX10_signAt_108 : decode cX10_signAt 108 = .ok (.iload_n 2, 1) := by decide +kernel
theorem dX10_signAt_109 : decode cX10_signAt 109 = .ok (.bipush 40, 2) := by decide +kernel
theorem dX10_signAt_111 : decode cX10_signAt 111 = .ok (.if_icmp .eq 9, 3) := by decide +kernel
theorem dX10_signAt_114 : decode cX10_signAt 114 = .ok (.iload_n 2, 1) := by decide +kernel
theorem dX10_signAt_115 : decode cX10_signAt 115 = .ok (.bipush 41, 2) := by decide +kernel
theorem dX10_signAt_117 : decode cX10_signAt 117 = .ok (.if_icmp .ne 7, 3) := by decide +kernel
theorem dX10_signAt_120 : decode cX10_signAt 120 = .ok (.iload_n 2, 1) := by decide +kernel
theorem dX10_signAt_121 : decode cX10_signAt 121 = .ok (.goto 4, 3) := by decide +kernel
theorem dX10_signAt_124 : decode cX10_signAt 124 = .ok (.iconst 0, 1) := by decide +kernel
theorem dX10_signAt_125 : decode cX10_signAt 125 = .ok (.ireturn, 1) := by decide +kernel
theorem dX10_scan_0 : decode cX10_scan 0 = .ok (.iload_n 1, 1) := by decide +kernel
theorem dX10_scan_1 : decode cX10_scan 1 = .ok (.istore_n 2, 1) := by decide +kernel
theorem dX10_scan_2 : decode cX10_scan 2 = .ok (.aload_n 0, 1) := by decide +kernel
theorem dX10_scan_3 : decode cX10_scan 3 = .ok (.iload_n 1, 1) := by decide +kernel
theorem dX10_scan_4 : decode cX10_scan 4 = .ok (.invokevirtual 261, 3) := by decide +kernel
theorem dX10_scan_7 : decode cX10_scan 7 = .ok (.ifCond .eq 103, 3) := by decide +kernel
theorem dX10_scan_10 : decode cX10_scan 10 = .ok (.lconst 0, 1) := by decide +kernel
theorem dX10_scan_11 : decode cX10_scan 11 = .ok (.lstore_n 3, 1) := by decide +kernel
theorem dX10_scan_12 : decode cX10_scan 12 = .ok (.aload_n 0, 1) := by decide +kernel
theorem dX10_scan_13 : decode cX10_scan 13 = .ok (.iload_n 2, 1) := by decide +kernel
theorem dX10_scan_14 : decode cX10_scan 14 = .ok (.invokevirtual 261, 3) := by decide +kernel
theorem dX10_scan_17 : decode cX10_scan 17 = .ok (.ifCond .eq 34, 3) := by decide +kernel
theorem dX10_scan_20 : decode cX10_scan 20 = .ok (.iload_n 2, 1) := by decide +kernel
theorem dX10_scan_21 : decode cX10_scan 21 = .ok (.iload_n 1, 1) := by decide +kernel
theorem dX10_scan_22 : decode cX10_scan 22 = .ok (.isub, 1) := by decide +kernel
theorem dX10_scan_23 : decode cX10_scan 23 = .ok (.bipush 8, 2) := by decide +kernel
theorem dX10_scan_25 : decode cX10_scan 25 = .ok (.if_icmp .ge 20, 3) := by decide +kernel
theorem dX10_scan_28 : decode cX10_scan 28 = .ok (.lload_n 3, 1) := by decide +kernel
theorem dX10_scan_29 : decode cX10_scan 29 = .ok (.ldc2_w 265, 3) := by decide +kernel
theorem dX10_scan_32 : decode cX10_scan 32 = .ok (.lmul, 1) := by decide +kernel
theorem dX10_scan_33 : decode cX10_scan 33 = .ok (.aload_n 0, 1) := by decide +kernel
theorem dX10_scan_34 : decode cX10_scan 34 = .ok (.iload_n 2, 1) := by decide +kernel
theorem dX10_scan_35 : decode cX10_scan 35 = .ok (.invokevirtual 220, 3) := by decide +kernel
theorem dX10_scan_38 : decode cX10_scan 38 = .ok (.i2l, 1) := by decide +kernel
theorem dX10_scan_39 : decode cX10_scan 39 = .ok (.ladd, 1) := by decide +kernel
theorem dX10_scan_40 : decode cX10_scan 40 = .ok (.ldc2_w 267, 3) := by decide +kernel
theorem dX10_scan_43 : decode cX10_scan 43 = .ok (.lsub, 1) := by decide +kernel
theorem dX10_scan_44 : decode cX10_scan 44 = .ok (.lstore_n 3, 1) := by decide +kernel
theorem dX10_scan_45 : decode cX10_scan 45 = .ok (.iinc 2 1, 3) := by decide +kernel
theorem dX10_scan_48 : decode cX10_scan 48 = .ok (.goto (-36), 3) := by decide +kernel
theorem dX10_scan_51 : decode cX10_scan 51 = .ok (.iload_n 2, 1) := by decide +kernel
theorem dX10_scan_52 : decode cX10_scan 52 = .ok (.iload_n 1, 1) := by decide +kernel
theorem dX10_scan_53 : decode cX10_scan 53 = .ok (.isub, 1) := by decide +kernel
theorem dX10_scan_54 : decode cX10_scan 54 = .ok (.bipush 8, 2) := by decide +kernel
theorem dX10_scan_56 : decode cX10_scan 56 = .ok (.if_icmp .le 7, 3) := by decide +kernel
theorem dX10_scan_59 : decode cX10_scan 59 = .ok (.iconst (-1), 1) := by decide +kernel
theorem dX10_scan_60 : decode cX10_scan 60 = .ok (.goto 7, 3) := by decide +kernel
theorem dX10_scan_63 : decode cX10_scan 63 = .ok (.lload_n 3, 1) := by decide +kernel
theorem dX10_scan_64 : decode cX10_scan 64 = .ok (.invokestatic 269, 3) := by decide +kernel
theorem dX10_scan_67 : decode cX10_scan 67 = .ok (.istore 5, 2) := by decide +kernel
theorem dX10_scan_69 : decode cX10_scan 69 = .ok (.aload_n 0, 1) := by decide +kernel
theorem dX10_scan_70 : decode cX10_scan 70 = .ok (.getfield 22, 3) := by decide +kernel
theorem dX10_scan_73 : decode cX10_scan 73 = .ok (.aload_n 0, 1) := by decide +kernel
theorem dX10_scan_74 : decode cX10_scan 74 = .ok (.getfield 224, 3) := by decide +kernel
theorem dX10_scan_77 : decode cX10_scan 77 = .ok (.lload_n 3, 1) := by decide +kernel
theorem dX10_scan_78 : decode cX10_scan 78 = .ok (.lastore, 1) := by decide +kernel
theorem dX10_scan_79 : decode cX10_scan 79 = .ok (.aload_n 0, 1) := by decide +kernel
theorem dX10_scan_80 : decode cX10_scan 80 = .ok (.iload_n 2, 1) := by decide +kernel
theorem dX10_scan_81 : decode cX10_scan 81 = .ok (.iload_n 1, 1) := by decide +kernel
theorem dX10_scan_82 : decode cX10_scan 82 = .ok (.isub, 1) := by decide +kernel
theorem dX10_scan_83 : decode cX10_scan 83 = .ok (.bipush 8, 2) := by decide +kernel
theorem dX10_scan_85 : decode cX10_scan 85 = .ok (.if_icmp .le 7, 3) := by decide +kernel
theorem dX10_scan_88 : decode cX10_scan 88 = .ok (.iconst 5, 1) := by decide +kernel
theorem dX10_scan_89 : decode cX10_scan 89 = .ok (.goto 13, 3) := by decide +kernel
theorem dX10_scan_92 : decode cX10_scan 92 = .ok (.iload 5, 2) := by decide +kernel
theorem dX10_scan_94 : decode cX10_scan 94 = .ok (.ifCond .lt 7, 3) := by decide +kernel
theorem dX10_scan_97 : decode cX10_scan 97 = .ok (.iconst 3, 1) := by decide +kernel
theorem dX10_scan_98 : decode cX10_scan 98 = .ok (.goto 4, 3) := by decide +kernel
theorem dX10_scan_101 : decode cX10_scan 101 = .ok (.iconst 0, 1) := by decide +kernel
theorem dX10_scan_102 : decode cX10_scan 102 = .ok (.iload_n 1, 1) := by decide +kernel
theorem dX10_scan_103 : decode cX10_scan 103 = .ok (.iload 5, 2) := by decide +kernel
theorem dX10_scan_105 : decode cX10_scan 105 = .ok (.invokevirtual 273, 3) := by decide +kernel
theorem dX10_scan_108 : decode cX10_scan 108 = .ok (.iload_n 2, 1) := by decide +kernel
theorem dX10_scan_109 : decode cX10_scan 109 = .ok (.ireturn, 1) := by decide +kernel
theorem dX10_scan_110 : decode cX10_scan 110 = .ok (.aload_n 0, 1) := by decide +kernel
theorem dX10_scan_111 : decode cX10_scan 111 = .ok (.iload_n 1, 1) := by decide +kernel
theorem dX10_scan_112 : decode cX10_scan 112 = .ok (.invokevirtual 277, 3) := by decide +kernel
theorem dX10_scan_115 : decode cX10_scan 115 = .ok (.ifCond .eq 60, 3) := by decide +kernel
theorem dX10_scan_118 : decode cX10_scan 118 = .ok (.iconst 0, 1) := by decide +kernel
theorem dX10_scan_119 : decode cX10_scan 119 = .ok (.istore_n 3, 1) := by decide +kernel
theorem dX10_scan_120 : decode cX10_scan 120 = .ok (.aload_n 0, 1) := by decide +kernel
theorem dX10_scan_121 : decode cX10_scan 121 = .ok (.iload_n 2, 1) := by decide +kernel
theorem dX10_scan_122 : decode cX10_scan 122 = .ok (.invokevirtual 277, 3) := by decide +kernel
theorem dX10_scan_125 : decode cX10_scan 125 = .ok (.ifCond .eq 30, 3) := by decide +kernel
theorem dX10_scan_128 : decode cX10_scan 128 = .ok (.iload_n 2, 1) := by decide +kernel
theorem dX10_scan_129 : decode cX10_scan 129 = .ok (.iload_n 1, 1) := by decide +kernel
theorem dX10_scan_130 : decode cX10_scan 130 = .ok (.isub, 1) := by decide +kernel
theorem dX10_scan_131 : decode cX10_scan 131 = .ok (.iconst 4, 1) := by decide +kernel
theorem dX10_scan_132 : decode cX10_scan 132 = .ok (.if_icmp .ge 17, 3) := by decide +kernel
theorem dX10_scan_135 : decode cX10_scan 135 = .ok (.bipush 10, 2) := by decide +kernel
theorem dX10_scan_137 : decode cX10_scan 137 = .ok (.iload_n 3, 1) := by decide +kernel
theorem dX10_scan_138 : decode cX10_scan 138 = .ok (.imul, 1) := by decide +kernel
theorem dX10_scan_139 : decode cX10_scan 139 = .ok (.aload_n 0, 1) := by decide +kernel
theorem dX10_scan_140 : decode cX10_scan 140 = .ok (.iload_n 2, 1) := by decide +kernel
theorem dX10_scan_141 : decode cX10_scan 141 = .ok (.invokevirtual 220, 3) := by decide +kernel
theorem dX10_scan_144 : decode cX10_scan 144 = .ok (.iadd, 1) := by decide +kernel
theorem dX10_scan_145 : decode cX10_scan 145 = .ok (.bipush 48, 2) := by decide +kernel
theorem dX10_scan_147 : decode cX10_scan 147 = .ok (.isub, 1) := by decide +kernel
theorem dX10_scan_148 : decode cX10_scan 148 = .ok (.istore_n 3, 1) := by decide +kernel
theorem dX10_scan_149 : decode cX10_scan 149 = .ok (.iinc 2 1, 3) := by decide +kernel
theorem dX10_scan_152 : decode cX10_scan 152 = .ok (.goto (-32), 3) := by decide +kernel
theorem dX10_scan_155 : decode cX10_scan 155 = .ok (.aload_n 0, 1) := by decide +kernel
theorem dX10_scan_156 : decode cX10_scan 156 = .ok (.iload_n 2, 1) := by decide +kernel
theorem dX10_scan_157 : decode cX10_scan 157 = .ok (.iload_n 1, 1) := by decide +kernel
theorem dX10_scan_158 : decode cX10_scan 158 = .ok (.isub, 1) := by decide +kernel
theorem dX10_scan_159 : decode cX10_scan 159 = .ok (.iconst 4, 1) := by decide +kernel
theorem dX10_scan_160 : decode cX10_scan 160 = .ok (.if_icmp .le 7, 3) := by decide +kernel
theorem dX10_scan_163 : decode cX10_scan 163 = .ok (.iconst 5, 1) := by decide +kernel
theorem dX10_scan_164 : decode cX10_scan 164 = .ok (.goto 4, 3) := by decide +kernel
theorem dX10_scan_167 : decode cX10_scan 167 = .ok (.iconst 1, 1) := by decide +kernel
theorem dX10_scan_168 : decode cX10_scan 168 = .ok (.iload_n 1, 1) := by decide +kernel
theorem dX10_scan_169 : decode cX10_scan 169 = .ok (.iload_n 3, 1) := by decide +kernel
theorem dX10_scan_170 : decode cX10_scan 170 = .ok (.invokevirtual 273, 3) := by decide +kernel
theorem dX10_scan_173 : decode cX10_scan 173 = .ok (.iload_n 2, 1) := by decide +kernel
theorem dX10_scan_174 : decode cX10_scan 174 = .ok (.ireturn, 1) := by decide +kernel
theorem dX10_scan_175 : decode cX10_scan 175 = .ok (.aload_n 0, 1) := by decide +kernel
theorem dX10_scan_176 : decode cX10_scan 176 = .ok (.iload_n 1, 1) := by decide +kernel
theorem dX10_scan_177 : decode cX10_scan 177 = .ok (.invokevirtual 280, 3) := by decide +kernel
theorem dX10_scan_180 : decode cX10_scan 180 = .ok (.istore_n 3, 1) := by decide +kernel
theorem dX10_scan_181 : decode cX10_scan 181 = .ok (.aload_n 0, 1) := by decide +kernel
theorem dX10_scan_182 : decode cX10_scan 182 = .ok (.iload_n 3, 1) := by decide +kernel
theorem dX10_scan_183 : decode cX10_scan 183 = .ok (.ifCond .ne 7, 3) := by decide +kernel
theorem dX10_scan_186 : decode cX10_scan 186 = .ok (.iconst 5, 1) := by decide +kernel
theorem dX10_scan_187 : decode cX10_scan 187 = .ok (.goto 4, 3) := by decide +kernel
theorem dX10_scan_190 : decode cX10_scan 190 = .ok (.iconst 2, 1) := by decide +kernel
theorem dX10_scan_191 : decode cX10_scan 191 = .ok (.iload_n 1, 1) := by decide +kernel
theorem dX10_scan_192 : decode cX10_scan 192 = .ok (.iload_n 3, 1) := by decide +kernel
theorem dX10_scan_193 : decode cX10_scan 193 = .ok (.invokevirtual 273, 3) := by decide +kernel
theorem dX10_scan_196 : decode cX10_scan 196 = .ok (.iload_n 1, 1) := by decide +kernel
theorem dX10_scan_197 : decode cX10_scan 197 = .ok (.iload_n 3, 1) := by decide +kernel
theorem dX10_scan_198 : decode cX10_scan 198 = .ok (.sipush 300, 3) := by decide +kernel
theorem dX10_scan_201 : decode cX10_scan 201 = .ok (.if_icmp .lt 7, 3) := by decide +kernel
theorem dX10_scan_204 : decode cX10_scan 204 = .ok (.iconst 2, 1) := by decide +kernel
theorem dX10_scan_205 : decode cX10_scan 205 = .ok (.goto 4, 3) := by decide +kernel
theorem dX10_scan_208 : decode cX10_scan 208 = .ok (.iconst 1, 1) := by decide +kernel
theorem dX10_scan_209 : decode cX10_scan 209 = .ok (.iadd, 1) := by decide +kernel
theorem dX10_scan_210 : decode cX10_scan 210 = .ok (.ireturn, 1) := by decide +kernel
theorem dX10_scanAll_0 : decode cX10_scanAll 0 = .ok (.aload_n 0, 1) := by decide +kernel
theorem dX10_scanAll_1 : decode cX10_scanAll 1 = .ok (.iconst 0, 1) := by decide +kernel
theorem dX10_scanAll_2 : decode cX10_scanAll 2 = .ok (.putfield 224, 3) := by decide +kernel
theorem dX10_scanAll_5 : decode cX10_scanAll 5 = .ok (.iconst 0, 1) := by decide +kernel
theorem dX10_scanAll_6 : decode cX10_scanAll 6 = .ok (.istore_n 1, 1) := by decide +kernel
theorem dX10_scanAll_7 : decode cX10_scanAll 7 = .ok (.iconst 1, 1) := by decide +kernel
theorem dX10_scanAll_8 : decode cX10_scanAll 8 = .ok (.istore_n 2, 1) := by decide +kernel
theorem dX10_scanAll_9 : decode cX10_scanAll 9 = .ok (.iload_n 1, 1) := by decide +kernel
theorem dX10_scanAll_10 : decode cX10_scanAll 10 = .ok (.aload_n 0, 1) := by decide +kernel
theorem dX10_scanAll_11 : decode cX10_scanAll 11 = .ok (.getfield 214, 3) := by decide +kernel
theorem dX10_scanAll_14 : decode cX10_scanAll 14 = .ok (.if_icmp .ge 73, 3) := by decide +kernel
theorem dX10_scanAll_17 : decode cX10_scanAll 17 = .ok (.iload_n 2, 1) := by decide +kernel
theorem dX10_scanAll_18 : decode cX10_scanAll 18 = .ok (.ifCond .eq 69, 3) := by decide +kernel
theorem dX10_scanAll_21 : decode cX10_scanAll 21 = .ok (.aload_n 0, 1) := by decide +kernel
theorem dX10_scanAll_22 : decode cX10_scanAll 22 = .ok (.iload_n 1, 1) := by decide +kernel
theorem dX10_scanAll_23 : decode cX10_scanAll 23 = .ok (.invokevirtual 220, 3) := by decide +kernel
theorem dX10_scanAll_26 : decode cX10_scanAll 26 = .ok (.istore_n 3, 1) := by decide +kernel
theorem dX10_scanAll_27 : decode cX10_scanAll 27 = .ok (.iload_n 3, 1) := by decide +kernel
theorem dX10_scanAll_28 : decode cX10_scanAll 28 = .ok (.bipush 32, 2) := by decide +kernel
theorem dX10_scanAll_30 : decode cX10_scanAll 30 = .ok (.if_icmp .eq 21, 3) := by decide +kernel
theorem dX10_scanAll_33 : decode cX10_scanAll 33 = .ok (.iload_n 3, 1) := by decide +kernel
theorem dX10_scanAll_34 : decode cX10_scanAll 34 = .ok (.bipush 9, 2) := by decide +kernel
theorem dX10_scanAll_36 : decode cX10_scanAll 36 = .ok (.if_icmp .eq 15, 3) := by decide +kernel
theorem dX10_scanAll_39 : decode cX10_scanAll 39 = .ok (.iload_n 3, 1) := by decide +kernel
theorem dX10_scanAll_40 : decode cX10_scanAll 40 = .ok (.bipush 10, 2) := by decide +kernel
theorem dX10_scanAll_42 : decode cX10_scanAll 42 = .ok (.if_icmp .eq 9, 3) := by decide +kernel
theorem dX10_scanAll_45 : decode cX10_scanAll 45 = .ok (.iload_n 3, 1) := by decide +kernel
theorem dX10_scanAll_46 : decode cX10_scanAll 46 = .ok (.bipush 13, 2) := by decide +kernel
theorem dX10_scanAll_48 : decode cX10_scanAll 48 = .ok (.if_icmp .ne 9, 3) := by decide +kernel
theorem dX10_scanAll_51 : decode cX10_scanAll 51 = .ok (.iinc 1 1, 3) := by decide +kernel
theorem dX10_scanAll_54 : decode cX10_scanAll 54 = .ok (.goto (-45), 3) := by decide +kernel
theorem dX10_scanAll_57 : decode cX10_scanAll 57 = .ok (.aload_n 0, 1) := by decide +kernel
theorem dX10_scanAll_58 : decode cX10_scanAll 58 = .ok (.iload_n 1, 1) := by decide +kernel
theorem dX10_scanAll_59 : decode cX10_scanAll 59 = .ok (.invokevirtual 283, 3) := by decide +kernel
theorem dX10_scanAll_62 : decode cX10_scanAll 62 = .ok (.istore_n 1, 1) := by decide +kernel
theorem dX10_scanAll_63 : decode cX10_scanAll 63 = .ok (.aload_n 0, 1) := by decide +kernel
theorem dX10_scanAll_64 : decode cX10_scanAll 64 = .ok (.getfield 13, 3) := by decide +kernel
theorem dX10_scanAll_67 : decode cX10_scanAll 67 = .ok (.aload_n 0, 1) := by decide +kernel
theorem dX10_scanAll_68 : decode cX10_scanAll 68 = .ok (.getfield 224, 3) := by decide +kernel
theorem dX10_scanAll_71 : decode cX10_scanAll 71 = .ok (.iconst 1, 1) := by decide +kernel
theorem dX10_scanAll_72 : decode cX10_scanAll 72 = .ok (.isub, 1) := by decide +kernel
theorem dX10_scanAll_73 : decode cX10_scanAll 73 = .ok (.iaload, 1) := by decide +kernel
theorem dX10_scanAll_74 : decode cX10_scanAll 74 = .ok (.iconst 5, 1) := by decide +kernel
theorem dX10_scanAll_75 : decode cX10_scanAll 75 = .ok (.if_icmp .eq 7, 3) := by decide +kernel
theorem dX10_scanAll_78 : decode cX10_scanAll 78 = .ok (.iconst 1, 1) := by decide +kernel
theorem dX10_scanAll_79 : decode cX10_scanAll 79 = .ok (.goto 4, 3) := by decide +kernel
theorem dX10_scanAll_82 : decode cX10_scanAll 82 = .ok (.iconst 0, 1) := by decide +kernel
theorem dX10_scanAll_83 : decode cX10_scanAll 83 = .ok (.istore_n 2, 1) := by decide +kernel
theorem dX10_scanAll_84 : decode cX10_scanAll 84 = .ok (.goto (-75), 3) := by decide +kernel
theorem dX10_scanAll_87 : decode cX10_scanAll 87 = .ok (.iload_n 2, 1) := by decide +kernel
theorem dX10_scanAll_88 : decode cX10_scanAll 88 = .ok (.ifCond .eq 13, 3) := by decide +kernel
theorem dX10_scanAll_91 : decode cX10_scanAll 91 = .ok (.aload_n 0, 1) := by decide +kernel
theorem dX10_scanAll_92 : decode cX10_scanAll 92 = .ok (.iconst 4, 1) := by decide +kernel
theorem dX10_scanAll_93 : decode cX10_scanAll 93 = .ok (.aload_n 0, 1) := by decide +kernel
theorem dX10_scanAll_94 : decode cX10_scanAll 94 = .ok (.getfield 214, 3) := by decide +kernel
theorem dX10_scanAll_97 : decode cX10_scanAll 97 = .ok (.iconst 0, 1) := by decide +kernel
theorem dX10_scanAll_98 : decode cX10_scanAll 98 = .ok (.invokevirtual 273, 3) := by decide +kernel
theorem dX10_scanAll_101 : decode cX10_scanAll 101 = .ok (.return_, 1) := by decide +kernel
theorem dX10_wrong_0 : decode cX10_wrong 0 = .ok (.aload_n 0, 1) := by decide +kernel
theorem dX10_wrong_1 : decode cX10_wrong 1 = .ok (.iload_n 1, 1) := by decide +kernel
theorem dX10_wrong_2 : decode cX10_wrong 2 = .ok (.putfield 286, 3) := by decide +kernel
theorem dX10_wrong_5 : decode cX10_wrong 5 = .ok (.aload_n 0, 1) := by decide +kernel
theorem dX10_wrong_6 : decode cX10_wrong 6 = .ok (.aload_n 0, 1) := by decide +kernel
theorem dX10_wrong_7 : decode cX10_wrong 7 = .ok (.getfield 16, 3) := by decide +kernel
theorem dX10_wrong_10 : decode cX10_wrong 10 = .ok (.aload_n 0, 1) := by decide +kernel
theorem dX10_wrong_11 : decode cX10_wrong 11 = .ok (.getfield 289, 3) := by decide +kernel
theorem dX10_wrong_14 : decode cX10_wrong 14 = .ok (.iaload, 1) := by decide +kernel
theorem dX10_wrong_15 : decode cX10_wrong 15 = .ok (.putfield 26, 3) := by decide +kernel
theorem dX10_wrong_18 : decode cX10_wrong 18 = .ok (.iconst 0, 1) := by decide +kernel
theorem dX10_wrong_19 : decode cX10_wrong 19 = .ok (.ireturn, 1) := by decide +kernel
theorem dX10_tells_0 : decode cX10_tells 0 = .ok (.aload_n 0, 1) := by decide +kernel
theorem dX10_tells_1 : decode cX10_tells 1 = .ok (.getfield 16, 3) := by decide +kernel
theorem dX10_tells_4 : decode cX10_tells 4 = .ok (.iload_n 2, 1) := by decide +kernel
theorem dX10_tells_5 : decode cX10_tells 5 = .ok (.iaload, 1) := by decide +kernel
theorem dX10_tells_6 : decode cX10_tells 6 = .ok (.istore_n 3, 1) := by decide +kernel
theorem dX10_tells_7 : decode cX10_tells 7 = .ok (.aload_n 0, 1) := by decide +kernel
theorem dX10_tells_8 : decode cX10_tells 8 = .ok (.getfield 292, 3) := by decide +kernel
theorem dX10_tells_11 : decode cX10_tells 11 = .ok (.ifCond .eq 28, 3) := by decide +kernel
theorem dX10_tells_14 : decode cX10_tells 14 = .ok (.iload_n 3, 1) := by decide +kernel
theorem dX10_tells_15 : decode cX10_tells 15 = .ok (.aload_n 0, 1) := by decide +kernel
theorem dX10_tells_16 : decode cX10_tells 16 = .ok (.getfield 295, 3) := by decide +kernel
theorem dX10_tells_19 : decode cX10_tells 19 = .ok (.if_icmp .gt 19, 3) := by decide +kernel
theorem dX10_tells_22 : decode cX10_tells 22 = .ok (.iload_n 3, 1) := by decide +kernel
theorem dX10_tells_23 : decode cX10_tells 23 = .ok (.aload_n 0, 1) := by decide +kernel
theorem dX10_tells_24 : decode cX10_tells 24 = .ok (.getfield 295, 3) := by decide +kernel
theorem dX10_tells_27 : decode cX10_tells 27 = .ok (.if_icmp .ne 12, 3) := by decide +kernel
theorem dX10_tells_30 : decode cX10_tells 30 = .ok (.iload_n 1, 1) := by decide +kernel
theorem dX10_tells_31 : decode cX10_tells 31 = .ok (.aload_n 0, 1) := by decide +kernel
theorem dX10_tells_32 : decode cX10_tells 32 = .ok (.getfield 292, 3) := by decide +kernel
theorem dX10_tells_35 : decode cX10_tells 35 = .ok (.if_icmp .lt 4, 3) := by decide +kernel
theorem dX10_tells_38 : decode cX10_tells 38 = .ok (.return_, 1) := by decide +kernel
theorem dX10_tells_39 : decode cX10_tells 39 = .ok (.aload_n 0, 1) := by decide +kernel
theorem dX10_tells_40 : decode cX10_tells 40 = .ok (.iload_n 1, 1) := by decide +kernel
theorem dX10_tells_41 : decode cX10_tells 41 = .ok (.putfield 292, 3) := by decide +kernel
theorem dX10_tells_44 : decode cX10_tells 44 = .ok (.aload_n 0, 1) := by decide +kernel
theorem dX10_tells_45 : decode cX10_tells 45 = .ok (.iload_n 3, 1) := by decide +kernel
theorem dX10_tells_46 : decode cX10_tells 46 = .ok (.putfield 295, 3) := by decide +kernel
theorem dX10_tells_49 : decode cX10_tells 49 = .ok (.return_, 1) := by decide +kernel
theorem dX10_pass_0 : decode cX10_pass 0 = .ok (.aload_n 0, 1) := by decide +kernel
theorem dX10_pass_1 : decode cX10_pass 1 = .ok (.getfield 289, 3) := by decide +kernel
theorem dX10_pass_4 : decode cX10_pass 4 = .ok (.sipush 400, 3) := by decide +kernel
theorem dX10_pass_7 : decode cX10_pass 7 = .ok (.if_icmp .lt 9, 3) := by decide +kernel
theorem dX10_pass_10 : decode cX10_pass 10 = .ok (.aload_n 0, 1) := by decide +kernel
theorem dX10_pass_11 : decode cX10_pass 11 = .ok (.iconst 2, 1) := by decide +kernel
theorem dX10_pass_12 : decode cX10_pass 12 = .ok (.invokevirtual 298, 3) := by decide +kernel
theorem dX10_pass_15 : decode cX10_pass 15 = .ok (.ireturn, 1) := by decide +kernel
theorem dX10_pass_16 : decode cX10_pass 16 = .ok (.aload_n 0, 1) := by decide +kernel
theorem dX10_pass_17 : decode cX10_pass 17 = .ok (.dup, 1) := by decide +kernel
theorem dX10_pass_18 : decode cX10_pass 18 = .ok (.getfield 289, 3) := by decide +kernel
theorem dX10_pass_21 : decode cX10_pass 21 = .ok (.iconst 1, 1) := by decide +kernel
theorem dX10_pass_22 : decode cX10_pass 22 = .ok (.iadd, 1) := by decide +kernel
theorem dX10_pass_23 : decode cX10_pass 23 = .ok (.putfield 289, 3) := by decide +kernel
theorem dX10_pass_26 : decode cX10_pass 26 = .ok (.iconst 1, 1) := by decide +kernel
theorem dX10_pass_27 : decode cX10_pass 27 = .ok (.ireturn, 1) := by decide +kernel
theorem dX10_isSign_0 : decode cX10_isSign 0 = .ok (.aload_n 0, 1) := by decide +kernel
theorem dX10_isSign_1 : decode cX10_isSign 1 = .ok (.getfield 13, 3) := by decide +kernel
theorem dX10_isSign_4 : decode cX10_isSign 4 = .ok (.aload_n 0, 1) := by decide +kernel
theorem dX10_isSign_5 : decode cX10_isSign 5 = .ok (.getfield 289, 3) := by decide +kernel
theorem dX10_isSign_8 : decode cX10_isSign 8 = .ok (.iaload, 1) := by decide +kernel
theorem dX10_isSign_9 : decode cX10_isSign 9 = .ok (.iconst 2, 1) := by decide +kernel
theorem dX10_isSign_10 : decode cX10_isSign 10 = .ok (.if_icmp .ne 20, 3) := by decide +kernel
theorem dX10_isSign_13 : decode cX10_isSign 13 = .ok (.aload_n 0, 1) := by decide +kernel
theorem dX10_isSign_14 : decode cX10_isSign 14 = .ok (.getfield 19, 3) := by decide +kernel
theorem dX10_isSign_17 : decode cX10_isSign 17 = .ok (.aload_n 0, 1) := by decide +kernel
theorem dX10_isSign_18 : decode cX10_isSign 18 = .ok (.getfield 289, 3) := by decide +kernel
theorem dX10_isSign_21 : decode cX10_isSign 21 = .ok (.iaload, 1) := by decide +kernel
theorem dX10_isSign_22 : decode cX10_isSign 22 = .ok (.iload_n 1, 1) := by decide +kernel
theorem dX10_isSign_23 : decode cX10_isSign 23 = .ok (.if_icmp .ne 7, 3) := by decide +kernel
theorem dX10_isSign_26 : decode cX10_isSign 26 = .ok (.iconst 1, 1) := by decide +kernel
theorem dX10_isSign_27 : decode cX10_isSign 27 = .ok (.goto 4, 3) := by decide +kernel
theorem dX10_isSign_30 : decode cX10_isSign 30 = .ok (.iconst 0, 1) := by decide +kernel
theorem dX10_isSign_31 : decode cX10_isSign 31 = .ok (.ireturn, 1) := by decide +kernel
theorem dX10_isWord_0 : decode cX10_isWord 0 = .ok (.aload_n 0, 1) := by decide +kernel
theorem dX10_isWord_1 : decode cX10_isWord 1 = .ok (.getfield 13, 3) := by decide +kernel
theorem dX10_isWord_4 : decode cX10_isWord 4 = .ok (.aload_n 0, 1) := by decide +kernel
theorem dX10_isWord_5 : decode cX10_isWord 5 = .ok (.getfield 289, 3) := by decide +kernel
theorem dX10_isWord_8 : decode cX10_isWord 8 = .ok (.iaload, 1) := by decide +kernel
theorem dX10_isWord_9 : decode cX10_isWord 9 = .ok (.iconst 3, 1) := by decide +kernel
theorem dX10_isWord_10 : decode cX10_isWord 10 = .ok (.if_icmp .ne 20, 3) := by decide +kernel
theorem dX10_isWord_13 : decode cX10_isWord 13 = .ok (.aload_n 0, 1) := by decide +kernel
theorem dX10_isWord_14 : decode cX10_isWord 14 = .ok (.getfield 19, 3) := by decide +kernel
theorem dX10_isWord_17 : decode cX10_isWord 17 = .ok (.aload_n 0, 1) := by decide +kernel
theorem dX10_isWord_18 : decode cX10_isWord 18 = .ok (.getfield 289, 3) := by decide +kernel
theorem dX10_isWord_21 : decode cX10_isWord 21 = .ok (.iaload, 1) := by decide +kernel
theorem dX10_isWord_22 : decode cX10_isWord 22 = .ok (.iload_n 1, 1) := by decide +kernel
theorem dX10_isWord_23 : decode cX10_isWord 23 = .ok (.if_icmp .ne 7, 3) := by decide +kernel
theorem dX10_isWord_26 : decode cX10_isWord 26 = .ok (.iconst 1, 1) := by decide +kernel
theorem dX10_isWord_27 : decode cX10_isWord 27 = .ok (.goto 4, 3) := by decide +kernel
theorem dX10_isWord_30 : decode cX10_isWord 30 = .ok (.iconst 0, 1) := by decide +kernel
theorem dX10_isWord_31 : decode cX10_isWord 31 = .ok (.ireturn, 1) := by decide +kernel
theorem dX10_takes_0 : decode cX10_takes 0 = .ok (.aload_n 0, 1) := by decide +kernel
theorem dX10_takes_1 : decode cX10_takes 1 = .ok (.getfield 13, 3) := by decide +kernel
theorem dX10_takes_4 : decode cX10_takes 4 = .ok (.aload_n 0, 1) := by decide +kernel
theorem dX10_takes_5 : decode cX10_takes 5 = .ok (.getfield 289, 3) := by decide +kernel
theorem dX10_takes_8 : decode cX10_takes 8 = .ok (.iaload, 1) := by decide +kernel
theorem dX10_takes_9 : decode cX10_takes 9 = .ok (.iload_n 1, 1) := by decide +kernel
theorem dX10_takes_10 : decode cX10_takes 10 = .ok (.if_icmp .ne 10, 3) := by decide +kernel
theorem dX10_takes_13 : decode cX10_takes 13 = .ok (.aload_n 0, 1) := by decide +kernel
theorem dX10_takes_14 : decode cX10_takes 14 = .ok (.invokevirtual 301, 3) := by decide +kernel
theorem dX10_takes_17 : decode cX10_takes 17 = .ok (.goto 8, 3) := by decide +kernel
theorem dX10_takes_20 : decode cX10_takes 20 = .ok (.aload_n 0, 1) := by decide +kernel
theorem dX10_takes_21 : decode cX10_takes 21 = .ok (.iconst 1, 1) := by decide +kernel
theorem dX10_takes_22 : decode cX10_takes 22 = .ok (.invokevirtual 298, 3) := by decide +kernel
theorem dX10_takes_25 : decode cX10_takes 25 = .ok (.ireturn, 1) := by decide +kernel
theorem dX10_takesSigned_0 : decode cX10_takesSigned 0 = .ok (.aload_n 0, 1) := by decide +kernel
theorem dX10_takesSigned_1 : decode cX10_takesSigned 1 = .ok (.bipush 45, 2) := by decide +kernel
theorem dX10_takesSigned_3 : decode cX10_takesSigned 3 = .ok (.invokevirtual 305, 3) := by decide +kernel
theorem dX10_takesSigned_6 : decode cX10_takesSigned 6 = .ok (.istore_n 2, 1) := by decide +kernel
theorem dX10_takesSigned_7 : decode cX10_takesSigned 7 = .ok (.iload_n 2, 1) := by decide +kernel
theorem dX10_takesSigned_8 : decode cX10_takesSigned 8 = .ok (.ifCond .eq 12, 3) := by decide +kernel
theorem dX10_takesSigned_11 : decode cX10_takesSigned 11 = .ok (.aload_n 0, 1) := by decide +kernel
theorem dX10_takesSigned_12 : decode cX10_takesSigned 12 = .ok (.invokevirtual 301, 3) := by decide +kernel
theorem dX10_takesSigned_15 : decode cX10_takesSigned 15 = .ok (.ifCond .ne 5, 3) := by decide +kernel
theorem dX10_takesSigned_18 : decode cX10_takesSigned 18 = .ok (.iconst 0, 1) := by decide +kernel
theorem dX10_takesSigned_19 : decode cX10_takesSigned 19 = .ok (.ireturn, 1) := by decide +kernel
theorem dX10_takesSigned_20 : decode cX10_takesSigned 20 = .ok (.aload_n 0, 1) := by decide +kernel
theorem dX10_takesSigned_21 : decode cX10_takesSigned 21 = .ok (.getfield 289, 3) := by decide +kernel
theorem dX10_takesSigned_24 : decode cX10_takesSigned 24 = .ok (.istore_n 3, 1) := by decide +kernel
theorem dX10_takesSigned_25 : decode cX10_takesSigned 25 = .ok (.aload_n 0, 1) := by decide +kernel
theorem dX10_takesSigned_26 : decode cX10_takesSigned 26 = .ok (.iconst 1, 1) := by decide +kernel
theorem dX10_takesSigned_27 : decode cX10_takesSigned 27 = .ok (.invokevirtual 308, 3) := by decide +kernel
theorem dX10_takesSigned_30 : decode cX10_takesSigned 30 = .ok (.ifCond .ne 5, 3) := by decide +kernel
theorem dX10_takesSigned_33 : decode cX10_takesSigned 33 = .ok (.iconst 0, 1) := by decide +kernel
theorem dX10_takesSigned_34 : decode cX10_takesSigned 34 = .ok (.ireturn, 1) := by decide +kernel
theorem dX10_takesSigned_35 : decode cX10_takesSigned 35 = .ok (.aload_n 0, 1) := by decide +kernel
theorem dX10_takesSigned_36 : decode cX10_takesSigned 36 = .ok (.getfield 19, 3) := by decide +kernel
theorem dX10_takesSigned_39 : decode cX10_takesSigned 39 = .ok (.iload_n 3, 1) := by decide +kernel
theorem dX10_takesSigned_40 : decode cX10_takesSigned 40 = .ok (.iaload, 1) := by decide +kernel
theorem dX10_takesSigned_41 : decode cX10_takesSigned 41 = .ok (.iload_n 1, 1) := by decide +kernel
theorem dX10_takesSigned_42 : decode cX10_takesSigned 42 = .ok (.if_icmp .le 9, 3) := by decide +kernel
theorem dX10_takesSigned_45 : decode cX10_takesSigned 45 = .ok (.aload_n 0, 1) := by decide +kernel
theorem dX10_takesSigned_46 : decode cX10_takesSigned 46 = .ok (.iconst 5, 1) := by decide +kernel
theorem dX10_takesSigned_47 : decode cX10_takesSigned 47 = .ok (.iload_n 3, 1) := by decide +kernel
theorem dX10_takesSigned_48 : decode cX10_takesSigned 48 = .ok (.invokevirtual 311, 3) := by decide +kernel
theorem dX10_takesSigned_51 : decode cX10_takesSigned 51 = .ok (.aload_n 0, 1) := by decide +kernel
theorem dX10_takesSigned_52 : decode cX10_takesSigned 52 = .ok (.iload_n 2, 1) := by decide +kernel
theorem dX10_takesSigned_53 : decode cX10_takesSigned 53 = .ok (.ifCond .eq 13, 3) := by decide +kernel
theorem dX10_takesSigned_56 : decode cX10_takesSigned 56 = .ok (.aload_n 0, 1) := by decide +kernel
theorem dX10_takesSigned_57 : decode cX10_takesSigned 57 = .ok (.getfield 19, 3) := by decide +kernel
theorem dX10_takesSigned_60 : decode cX10_takesSigned 60 = .ok (.iload_n 3, 1) := by decide +kernel
theorem dX10_takesSigned_61 : decode cX10_takesSigned 61 = .ok (.iaload, 1) := by decide +kernel
theorem dX10_takesSigned_62 : decode cX10_takesSigned 62 = .ok (.ineg, 1) := by decide +kernel
theorem dX10_takesSigned_63 : decode cX10_takesSigned 63 = .ok (.goto 9, 3) := by decide +kernel
theorem dX10_takesSigned_66 : decode cX10_takesSigned 66 = .ok (.aload_n 0, 1) := by decide +kernel
theorem dX10_takesSigned_67 : decode cX10_takesSigned 67 = .ok (.getfield 19, 3) := by decide +kernel
theorem dX10_takesSigned_70 : decode cX10_takesSigned 70 = .ok (.iload_n 3, 1) := by decide +kernel
theorem dX10_takesSigned_71 : decode cX10_takesSigned 71 = .ok (.iaload, 1) := by decide +kernel
theorem dX10_takesSigned_72 : decode cX10_takesSigned 72 = .ok (.putfield 315, 3) := by decide +kernel
theorem dX10_takesSigned_75 : decode cX10_takesSigned 75 = .ok (.iconst 1, 1) := by decide +kernel
theorem dX10_takesSigned_76 : decode cX10_takesSigned 76 = .ok (.ireturn, 1) := by decide +kernel
theorem dX10_takesInt_0 : decode cX10_takesInt 0 = .ok (.aload_n 0, 1) := by decide +kernel
theorem dX10_takesInt_1 : decode cX10_takesInt 1 = .ok (.getfield 289, 3) := by decide +kernel
theorem dX10_takesInt_4 : decode cX10_takesInt 4 = .ok (.istore_n 3, 1) := by decide +kernel
theorem dX10_takesInt_5 : decode cX10_takesInt 5 = .ok (.aload_n 0, 1) := by decide +kernel
theorem dX10_takesInt_6 : decode cX10_takesInt 6 = .ok (.iconst 1, 1) := by decide +kernel
theorem dX10_takesInt_7 : decode cX10_takesInt 7 = .ok (.invokevirtual 308, 3) := by decide +kernel
theorem dX10_takesInt_10 : decode cX10_takesInt 10 = .ok (.ifCond .ne 5, 3) := by decide +kernel
theorem dX10_takesInt_13 : decode cX10_takesInt 13 = .ok (.iconst 0, 1) := by decide +kernel
theorem dX10_takesInt_14 : decode cX10_takesInt 14 = .ok (.ireturn, 1) := by decide +kernel
theorem dX10_takesInt_15 : decode cX10_takesInt 15 = .ok (.aload_n 0, 1) := by decide +kernel
theorem dX10_takesInt_16 : decode cX10_takesInt 16 = .ok (.aload_n 0, 1) := by decide +kernel
theorem dX10_takesInt_17 : decode cX10_takesInt 17 = .ok (.getfield 19, 3) := by decide +kernel
theorem dX10_takesInt_20 : decode cX10_takesInt 20 = .ok (.iload_n 3, 1) := by decide +kernel
theorem dX10_takesInt_21 : decode cX10_takesInt 21 = .ok (.iaload, 1) := by decide +kernel
theorem dX10_takesInt_22 : decode cX10_takesInt 22 = .ok (.putfield 315, 3) := by decide +kernel
theorem dX10_takesInt_25 : decode cX10_takesInt 25 = .ok (.aload_n 0, 1) := by decide +kernel
theorem dX10_takesInt_26 : decode cX10_takesInt 26 = .ok (.getfield 315, 3) := by decide +kernel
theorem dX10_takesInt_29 : decode cX10_takesInt 29 = .ok (.iload_n 1, 1) := by decide +kernel
theorem dX10_takesInt_30 : decode cX10_takesInt 30 = .ok (.if_icmp .lt 11, 3) := by decide +kernel
theorem dX10_takesInt_33 : decode cX10_takesInt 33 = .ok (.aload_n 0, 1) := by decide +kernel
theorem dX10_takesInt_34 : decode cX10_takesInt 34 = .ok (.getfield 315, 3) := by decide +kernel
theorem dX10_takesInt_37 : decode cX10_takesInt 37 = .ok (.iload_n 2, 1) := by decide +kernel
theorem dX10_takesInt_38 : decode cX10_takesInt 38 = .ok (.if_icmp .le 9, 3) := by decide +kernel
theorem dX10_takesInt_41 : decode cX10_takesInt 41 = .ok (.aload_n 0, 1) := by decide +kernel
theorem dX10_takesInt_42 : decode cX10_takesInt 42 = .ok (.iconst 5, 1) := by decide +kernel
theorem dX10_takesInt_43 : decode cX10_takesInt 43 = .ok (.iload_n 3, 1) := by decide +kernel
theorem dX10_takesInt_44 : decode cX10_takesInt 44 = .ok (.invokevirtual 311, 3) := by decide +kernel
theorem dX10_takesInt_47 : decode cX10_takesInt 47 = .ok (.iconst 1, 1) := by decide +kernel
theorem dX10_takesInt_48 : decode cX10_takesInt 48 = .ok (.ireturn, 1) := by decide +kernel
theorem dX10_emit_0 : decode cX10_emit 0 = .ok (.aload_n 0, 1) := by decide +kernel
theorem dX10_emit_1 : decode cX10_emit 1 = .ok (.getfield 99, 3) := by decide +kernel
theorem dX10_emit_4 : decode cX10_emit 4 = .ok (.aload_n 0, 1) := by decide +kernel
theorem dX10_emit_5 : decode cX10_emit 5 = .ok (.getfield 96, 3) := by decide +kernel
theorem dX10_emit_8 : decode cX10_emit 8 = .ok (.aload_n 0, 1) := by decide +kernel
theorem dX10_emit_9 : decode cX10_emit 9 = .ok (.getfield 318, 3) := by decide +kernel
theorem dX10_emit_12 : decode cX10_emit 12 = .ok (.iaload, 1) := by decide +kernel
theorem dX10_emit_13 : decode cX10_emit 13 = .ok (.iload_n 1, 1) := by decide +kernel
theorem dX10_emit_14 : decode cX10_emit 14 = .ok (.iastore, 1) := by decide +kernel
theorem dX10_emit_15 : decode cX10_emit 15 = .ok (.aload_n 0, 1) := by decide +kernel
theorem dX10_emit_16 : decode cX10_emit 16 = .ok (.getfield 102, 3) := by decide +kernel
theorem dX10_emit_19 : decode cX10_emit 19 = .ok (.aload_n 0, 1) := by decide +kernel
theorem dX10_emit_20 : decode cX10_emit 20 = .ok (.getfield 96, 3) := by decide +kernel
theorem dX10_emit_23 : decode cX10_emit 23 = .ok (.aload_n 0, 1) := by decide +kernel
theorem dX10_emit_24 : decode cX10_emit 24 = .ok (.getfield 318, 3) := by decide +kernel
theorem dX10_emit_27 : decode cX10_emit 27 = .ok (.iaload, 1) := by decide +kernel
theorem dX10_emit_28 : decode cX10_emit 28 = .ok (.iload_n 2, 1) := by decide +kernel
theorem dX10_emit_29 : decode cX10_emit 29 = .ok (.iastore, 1) := by decide +kernel
theorem dX10_emit_30 : decode cX10_emit 30 = .ok (.aload_n 0, 1) := by decide +kernel
theorem dX10_emit_31 : decode cX10_emit 31 = .ok (.getfield 96, 3) := by decide +kernel
theorem dX10_emit_34 : decode cX10_emit 34 = .ok (.aload_n 0, 1) := by decide +kernel
theorem dX10_emit_35 : decode cX10_emit 35 = .ok (.getfield 318, 3) := by decide +kernel
theorem dX10_emit_38 : decode cX10_emit 38 = .ok (.dup2, 1) := by decide +kernel
theorem dX10_emit_39 : decode cX10_emit 39 = .ok (.iaload, 1) := by decide +kernel
theorem dX10_emit_40 : decode cX10_emit 40 = .ok (.iconst 1, 1) := by decide +kernel
theorem dX10_emit_41 : decode cX10_emit 41 = .ok (.iadd, 1) := by decide +kernel
theorem dX10_emit_42 : decode cX10_emit 42 = .ok (.iastore, 1) := by decide +kernel
theorem dX10_emit_43 : decode cX10_emit 43 = .ok (.return_, 1) := by decide +kernel
theorem dX10_rank_0 : decode cX10_rank 0 = .ok (.iload_n 0, 1) := by decide +kernel
theorem dX10_rank_1 : decode cX10_rank 1 = .ok (.bipush 6, 2) := by decide +kernel
theorem dX10_rank_3 : decode cX10_rank 3 = .ok (.if_icmp .ne 7, 3) := by decide +kernel
theorem dX10_rank_6 : decode cX10_rank 6 = .ok (.iconst 3, 1) := by decide +kernel
theorem dX10_rank_7 : decode cX10_rank 7 = .ok (.goto 22, 3) := by decide +kernel
theorem dX10_rank_10 : decode cX10_rank 10 = .ok (.iload_n 0, 1) := by decide +kernel
theorem dX10_rank_11 : decode cX10_rank 11 = .ok (.iconst 3, 1) := by decide +kernel
theorem dX10_rank_12 : decode cX10_rank 12 = .ok (.if_icmp .le 7, 3) := by decide +kernel
theorem dX10_rank_15 : decode cX10_rank 15 = .ok (.iconst 2, 1) := by decide +kernel
theorem dX10_rank_16 : decode cX10_rank 16 = .ok (.goto 13, 3) := by decide +kernel
theorem dX10_rank_19 : decode cX10_rank 19 = .ok (.iload_n 0, 1) := by decide +kernel
theorem dX10_rank_20 : decode cX10_rank 20 = .ok (.iconst 1, 1) := by decide +kernel
theorem dX10_rank_21 : decode cX10_rank 21 = .ok (.if_icmp .le 7, 3) := by decide +kernel
theorem dX10_rank_24 : decode cX10_rank 24 = .ok (.iconst 1, 1) := by decide +kernel
theorem dX10_rank_25 : decode cX10_rank 25 = .ok (.goto 4, 3) := by decide +kernel
theorem dX10_rank_28 : decode cX10_rank 28 = .ok (.iconst 0, 1) := by decide +kernel
theorem dX10_rank_29 : decode cX10_rank 29 = .ok (.ireturn, 1) := by decide +kernel
theorem dX10_reduce_0 : decode cX10_reduce 0 = .ok (.aload_n 0, 1) := by decide +kernel
theorem dX10_reduce_1 : decode cX10_reduce 1 = .ok (.getfield 321, 3) := by decide +kernel
theorem dX10_reduce_4 : decode cX10_reduce 4 = .ok (.iload_n 2, 1) := by decide +kernel
theorem dX10_reduce_5 : decode cX10_reduce 5 = .ok (.if_icmp .le 48, 3) := by decide +kernel
theorem dX10_reduce_8 : decode cX10_reduce 8 = .ok (.aload_n 0, 1) := by decide +kernel
theorem dX10_reduce_9 : decode cX10_reduce 9 = .ok (.getfield 151, 3) := by decide +kernel
theorem dX10_reduce_12 : decode cX10_reduce 12 = .ok (.aload_n 0, 1) := by decide +kernel
theorem dX10_reduce_13 : decode cX10_reduce 13 = .ok (.getfield 321, 3) := by decide +kernel
theorem dX10_reduce_16 : decode cX10_reduce 16 = .ok (.iconst 1, 1) := by decide +kernel
theorem dX10_reduce_17 : decode cX10_reduce 17 = .ok (.isub, 1) := by decide +kernel
theorem dX10_reduce_18 : decode cX10_reduce 18 = .ok (.iaload, 1) := by decide +kernel
theorem dX10_reduce_19 : decode cX10_reduce 19 = .ok (.invokestatic 324, 3) := by decide +kernel
theorem dX10_reduce_22 : decode cX10_reduce 22 = .ok (.iload_n 1, 1) := by decide +kernel
theorem dX10_reduce_23 : decode cX10_reduce 23 = .ok (.if_icmp .lt 30, 3) := by decide +kernel
theorem dX10_reduce_26 : decode cX10_reduce 26 = .ok (.aload_n 0, 1) := by decide +kernel
theorem dX10_reduce_27 : decode cX10_reduce 27 = .ok (.dup, 1) := by decide +kernel
theorem dX10_reduce_28 : decode cX10_reduce 28 = .ok (.getfield 321, 3) := by decide +kernel
theorem dX10_reduce_31 : decode cX10_reduce 31 = .ok (.iconst 1, 1) := by decide +kernel
theorem dX10_reduce_32 : decode cX10_reduce 32 = .ok (.isub, 1) := by decide +kernel
theorem dX10_reduce_33 : decode cX10_reduce 33 = .ok (.putfield 321, 3) := by decide +kernel
theorem dX10_reduce_36 : decode cX10_reduce 36 = .ok (.aload_n 0, 1) := by decide +kernel
theorem dX10_reduce_37 : decode cX10_reduce 37 = .ok (.aload_n 0, 1) := by decide +kernel
theorem dX10_reduce_38 : decode cX10_reduce 38 = .ok (.getfield 151, 3) := by decide +kernel
theorem dX10_reduce_41 : decode cX10_reduce 41 = .ok (.aload_n 0, 1) := by decide +kernel
theorem dX10_reduce_42 : decode cX10_reduce 42 = .ok (.getfield 321, 3) := by decide +kernel
theorem dX10_reduce_45 : decode cX10_reduce 45 = .ok (.iaload, 1) := by decide +kernel
theorem dX10_reduce_46 : decode cX10_reduce 46 = .ok (.iconst 0, 1) := by decide +kernel
theorem dX10_reduce_47 : decode cX10_reduce 47 = .ok (.invokevirtual 327, 3) := by decide +kernel
theorem dX10_reduce_50 : decode cX10_reduce 50 = .ok (.goto (-50), 3) := by decide +kernel
theorem dX10_reduce_53 : decode cX10_reduce 53 = .ok (.return_, 1) := by decide +kernel
theorem dX10_await_0 : decode cX10_await 0 = .ok (.aload_n 0, 1) := by decide +kernel
theorem dX10_await_1 : decode cX10_await 1 = .ok (.getfield 151, 3) := by decide +kernel
theorem dX10_await_4 : decode cX10_await 4 = .ok (.aload_n 0, 1) := by decide +kernel
theorem dX10_await_5 : decode cX10_await 5 = .ok (.getfield 321, 3) := by decide +kernel
theorem dX10_await_8 : decode cX10_await 8 = .ok (.iload_n 1, 1) := by decide +kernel
theorem dX10_await_9 : decode cX10_await 9 = .ok (.iastore, 1) := by decide +kernel
theorem dX10_await_10 : decode cX10_await 10 = .ok (.aload_n 0, 1) := by decide +kernel
theorem dX10_await_11 : decode cX10_await 11 = .ok (.dup, 1) := by decide +kernel
theorem dX10_await_12 : decode cX10_await 12 = .ok (.getfield 321, 3) := by decide +kernel
theorem dX10_await_15 : decode cX10_await 15 = .ok (.iconst 1, 1) := by decide +kernel
theorem dX10_await_16 : decode cX10_await 16 = .ok (.iadd, 1) := by decide +kernel
theorem dX10_await_17 : decode cX10_await 17 = .ok (.putfield 321, 3) := by decide +kernel
theorem dX10_await_20 : decode cX10_await 20 = .ok (.return_, 1) := by decide +kernel
theorem dX10_variableOf_0 : decode cX10_variableOf 0 = .ok (.iload_n 0, 1) := by decide +kernel
theorem dX10_variableOf_1 : decode cX10_variableOf 1 = .ok (.bipush 13, 2) := by decide +kernel
theorem dX10_variableOf_3 : decode cX10_variableOf 3 = .ok (.if_icmp .ne 7, 3) := by decide +kernel
theorem dX10_variableOf_6 : decode cX10_variableOf 6 = .ok (.iconst 0, 1) := by decide +kernel
theorem dX10_variableOf_7 : decode cX10_variableOf 7 = .ok (.goto 52, 3) := by decide +kernel
theorem dX10_variableOf_10 : decode cX10_variableOf 10 = .ok (.iload_n 0, 1) := by decide +kernel
theorem dX10_variableOf_11 : decode cX10_variableOf 11 = .ok (.iconst 4, 1) := by decide +kernel
theorem dX10_variableOf_12 : decode cX10_variableOf 12 = .ok (.if_icmp .ne 7, 3) := by decide +kernel
theorem dX10_variableOf_15 : decode cX10_variableOf 15 = .ok (.iconst 1, 1) := by decide +kernel
theorem dX10_variableOf_16 : decode cX10_variableOf 16 = .ok (.goto 43, 3) := by decide +kernel
theorem dX10_variableOf_19 : decode cX10_variableOf 19 = .ok (.iload_n 0, 1) := by decide +kernel
theorem dX10_variableOf_20 : decode cX10_variableOf 20 = .ok (.iconst 3, 1) := by decide +kernel
theorem dX10_variableOf_21 : decode cX10_variableOf 21 = .ok (.if_icmp .ne 7, 3) := by decide +kernel
theorem dX10_variableOf_24 : decode cX10_variableOf 24 = .ok (.iconst 2, 1) := by decide +kernel
theorem dX10_variableOf_25 : decode cX10_variableOf 25 = .ok (.goto 34, 3) := by decide +kernel
theorem dX10_variableOf_28 : decode cX10_variableOf 28 = .ok (.iload_n 0, 1) := by decide +kernel
theorem dX10_variableOf_29 : decode cX10_variableOf 29 = .ok (.bipush 14, 2) := by decide +kernel
theorem dX10_variableOf_31 : decode cX10_variableOf 31 = .ok (.if_icmp .ne 7, 3) := by decide +kernel
theorem dX10_variableOf_34 : decode cX10_variableOf 34 = .ok (.iconst 3, 1) := by decide +kernel
theorem dX10_variableOf_35 : decode cX10_variableOf 35 = .ok (.goto 24, 3) := by decide +kernel
theorem dX10_variableOf_38 : decode cX10_variableOf 38 = .ok (.iload_n 0, 1) := by decide +kernel
theorem dX10_variableOf_39 : decode cX10_variableOf 39 = .ok (.bipush 15, 2) := by decide +kernel
theorem dX10_variableOf_41 : decode cX10_variableOf 41 = .ok (.if_icmp .ne 7, 3) := by decide +kernel
theorem dX10_variableOf_44 : decode cX10_variableOf 44 = .ok (.iconst 4, 1) := by decide +kernel
theorem dX10_variableOf_45 : decode cX10_variableOf 45 = .ok (.goto 14, 3) := by decide +kernel
theorem dX10_variableOf_48 : decode cX10_variableOf 48 = .ok (.iload_n 0, 1) := by decide +kernel
theorem dX10_variableOf_49 : decode cX10_variableOf 49 = .ok (.bipush 16, 2) := by decide +kernel
theorem dX10_variableOf_51 : decode cX10_variableOf 51 = .ok (.if_icmp .ne 7, 3) := by decide +kernel
theorem dX10_variableOf_54 : decode cX10_variableOf 54 = .ok (.iconst 5, 1) := by decide +kernel
theorem dX10_variableOf_55 : decode cX10_variableOf 55 = .ok (.goto 4, 3) := by decide +kernel
theorem dX10_variableOf_58 : decode cX10_variableOf 58 = .ok (.iconst (-1), 1) := by decide +kernel
theorem dX10_variableOf_59 : decode cX10_variableOf 59 = .ok (.ireturn, 1) := by decide +kernel
theorem dX10_expr_0 : decode cX10_expr 0 = .ok (.aload_n 0, 1) := by decide +kernel
theorem dX10_expr_1 : decode cX10_expr 1 = .ok (.aload_n 0, 1) := by decide +kernel
theorem dX10_expr_2 : decode cX10_expr 2 = .ok (.getfield 96, 3) := by decide +kernel
theorem dX10_expr_5 : decode cX10_expr 5 = .ok (.aload_n 0, 1) := by decide +kernel
theorem dX10_expr_6 : decode cX10_expr 6 = .ok (.getfield 318, 3) := by decide +kernel
theorem dX10_expr_9 : decode cX10_expr 9 = .ok (.iaload, 1) := by decide +kernel
theorem dX10_expr_10 : decode cX10_expr 10 = .ok (.putfield 330, 3) := by decide +kernel
theorem dX10_expr_13 : decode cX10_expr 13 = .ok (.aload_n 0, 1) := by decide +kernel
theorem dX10_expr_14 : decode cX10_expr 14 = .ok (.iconst 0, 1) := by decide +kernel
theorem dX10_expr_15 : decode cX10_expr 15 = .ok (.putfield 321, 3) := by decide +kernel
theorem dX10_expr_18 : decode cX10_expr 18 = .ok (.iconst 0, 1) := by decide +kernel
theorem dX10_expr_19 : decode cX10_expr 19 = .ok (.istore_n 1, 1) := by decide +kernel
theorem dX10_expr_20 : decode cX10_expr 20 = .ok (.iconst 1, 1) := by decide +kernel
theorem dX10_expr_21 : decode cX10_expr 21 = .ok (.istore_n 2, 1) := by decide +kernel
theorem dX10_expr_22 : decode cX10_expr 22 = .ok (.iconst 1, 1) := by decide +kernel
theorem dX10_expr_23 : decode cX10_expr 23 = .ok (.istore_n 3, 1) := by decide +kernel
theorem dX10_expr_24 : decode cX10_expr 24 = .ok (.iload_n 3, 1) := by decide +kernel
theorem dX10_expr_25 : decode cX10_expr 25 = .ok (.ifCond .eq 356, 3) := by decide +kernel
theorem dX10_expr_28 : decode cX10_expr 28 = .ok (.iload_n 2, 1) := by decide +kernel
theorem dX10_expr_29 : decode cX10_expr 29 = .ok (.ifCond .eq 179, 3) := by decide +kernel
theorem dX10_expr_32 : decode cX10_expr 32 = .ok (.aload_n 0, 1) := by decide +kernel
theorem dX10_expr_33 : decode cX10_expr 33 = .ok (.bipush 45, 2) := by decide +kernel
theorem dX10_expr_35 : decode cX10_expr 35 = .ok (.invokevirtual 305, 3) := by decide +kernel
theorem dX10_expr_38 : decode cX10_expr 38 = .ok (.ifCond .eq 21, 3) := by decide +kernel
theorem dX10_expr_41 : decode cX10_expr 41 = .ok (.aload_n 0, 1) := by decide +kernel
theorem dX10_expr_42 : decode cX10_expr 42 = .ok (.invokevirtual 301, 3) := by decide +kernel
theorem dX10_expr_45 : decode cX10_expr 45 = .ok (.ifCond .ne 5, 3) := by decide +kernel
theorem dX10_expr_48 : decode cX10_expr 48 = .ok (.iconst 0, 1) := by decide +kernel
theorem dX10_expr_49 : decode cX10_expr 49 = .ok (.ireturn, 1) := by decide +kernel
theorem dX10_expr_50 : decode cX10_expr 50 = .ok (.aload_n 0, 1) := by decide +kernel
theorem dX10_expr_51 : decode cX10_expr 51 = .ok (.bipush 6, 2) := by decide +kernel
theorem dX10_expr_53 : decode cX10_expr 53 = .ok (.invokevirtual 333, 3) := by decide +kernel
theorem dX10_expr_56 : decode cX10_expr 56 = .ok (.goto (-32), 3) := by decide +kernel
theorem dX10_expr_59 : decode cX10_expr 59 = .ok (.aload_n 0, 1) := by decide +kernel
theorem dX10_expr_60 : decode cX10_expr 60 = .ok (.bipush 40, 2) := by decide +kernel
theorem dX10_expr_62 : decode cX10_expr 62 = .ok (.invokevirtual 305, 3) := by decide +kernel
theorem dX10_expr_65 : decode cX10_expr 65 = .ok (.ifCond .eq 35, 3) := by decide +kernel
theorem dX10_expr_68 : decode cX10_expr 68 = .ok (.iload_n 1, 1) := by decide +kernel
theorem dX10_expr_69 : decode cX10_expr 69 = .ok (.bipush 6, 2) := by decide +kernel
theorem dX10_expr_71 : decode cX10_expr 71 = .ok (.if_icmp .ne 9, 3) := by decide +kernel
theorem dX10_expr_74 : decode cX10_expr 74 = .ok (.aload_n 0, 1) := by decide +kernel
theorem dX10_expr_75 : decode cX10_expr 75 = .ok (.iconst 2, 1) := by decide +kernel
theorem dX10_expr_76 : decode cX10_expr 76 = .ok (.invokevirtual 298, 3) := by decide +kernel
theorem dX10_expr_79 : decode cX10_expr 79 = .ok (.ireturn, 1) := by decide +kernel
theorem dX10_expr_80 : decode cX10_expr 80 = .ok (.aload_n 0, 1) := by decide +kernel
theorem dX10_expr_81 : decode cX10_expr 81 = .ok (.invokevirtual 301, 3) := by decide +kernel
theorem dX10_expr_84 : decode cX10_expr 84 = .ok (.ifCond .ne 5, 3) := by decide +kernel
theorem dX10_expr_87 : decode cX10_expr 87 = .ok (.iconst 0, 1) := by decide +kernel
theorem dX10_expr_88 : decode cX10_expr 88 = .ok (.ireturn, 1) := by decide +kernel
theorem dX10_expr_89 : decode cX10_expr 89 = .ok (.iinc 1 1, 3) := by decide +kernel
theorem dX10_expr_92 : decode cX10_expr 92 = .ok (.aload_n 0, 1) := by decide +kernel
theorem dX10_expr_93 : decode cX10_expr 93 = .ok (.iconst 0, 1) := by decide +kernel
theorem dX10_expr_94 : decode cX10_expr 94 = .ok (.invokevirtual 333, 3) := by decide +kernel
theorem dX10_expr_97 : decode cX10_expr 97 = .ok (.goto (-73), 3) := by decide +kernel
theorem dX10_expr_100 : decode cX10_expr 100 = .ok (.aload_n 0, 1) := by decide +kernel
theorem dX10_expr_101 : decode cX10_expr 101 = .ok (.getfield 13, 3) := by decide +kernel
theorem dX10_expr_104 : decode cX10_expr 104 = .ok (.aload_n 0, 1) := by decide +kernel
theorem dX10_expr_105 : decode cX10_expr 105 = .ok (.getfield 289, 3) := by decide +kernel
theorem dX10_expr_108 : decode cX10_expr 108 = .ok (.iaload, 1) := by decide +kernel
theorem dX10_expr_109 : decode cX10_expr 109 = .ok (.iconst 3, 1) := by decide +kernel
theorem dX10_expr_110 : decode cX10_expr 110 = .ok (.if_icmp .ne 18, 3) := by decide +kernel
theorem dX10_expr_113 : decode cX10_expr 113 = .ok (.aload_n 0, 1) := by decide +kernel
theorem dX10_expr_114 : decode cX10_expr 114 = .ok (.getfield 19, 3) := by decide +kernel
theorem dX10_expr_117 : decode cX10_expr 117 = .ok (.aload_n 0, 1) := by decide +kernel
theorem dX10_expr_118 : decode cX10_expr 118 = .ok (.getfield 289, 3) := by decide +kernel
theorem dX10_expr_121 : decode cX10_expr 121 = .ok (.iaload, 1) := by decide +kernel
theorem dX10_expr_122 : decode cX10_expr 122 = .ok (.invokestatic 336, 3) := by decide +kernel
theorem dX10_expr_125 : decode cX10_expr 125 = .ok (.goto 4, 3) := by decide +kernel
theorem dX10_expr_128 : decode cX10_expr 128 = .ok (.iconst (-1), 1) := by decide +kernel
theorem dX10_expr_129 : decode cX10_expr 129 = .ok (.istore 4, 2) := by decide +kernel
theorem dX10_expr_131 : decode cX10_expr 131 = .ok (.aload_n 0, 1) := by decide +kernel
theorem dX10_expr_132 : decode cX10_expr 132 = .ok (.getfield 13, 3) := by decide +kernel
theorem dX10_expr_135 : decode cX10_expr 135 = .ok (.aload_n 0, 1) := by decide +kernel
theorem dX10_expr_136 : decode cX10_expr 136 = .ok (.getfield 289, 3) := by decide +kernel
theorem dX10_expr_139 : decode cX10_expr 139 = .ok (.iaload, 1) := by decide +kernel
theorem dX10_expr_140 : decode cX10_expr 140 = .ok (.iconst 1, 1) := by decide +kernel
theorem dX10_expr_141 : decode cX10_expr 141 = .ok (.if_icmp .eq 14, 3) := by decide +kernel
theorem dX10_expr_144 : decode cX10_expr 144 = .ok (.iload 4, 2) := by decide +kernel
theorem dX10_expr_146 : decode cX10_expr 146 = .ok (.ifCond .ge 9, 3) := by decide +kernel
theorem dX10_expr_149 : decode cX10_expr 149 = .ok (.aload_n 0, 1) := by decide +kernel
theorem dX10_expr_150 : decode cX10_expr 150 = .ok (.iconst 1, 1) := by decide +kernel
theorem dX10_expr_151 : decode cX10_expr 151 = .ok (.invokevirtual 298, 3) := by decide +kernel
theorem dX10_expr_154 : decode cX10_expr 154 = .ok (.ireturn, 1) := by decide +kernel
theorem dX10_expr_155 : decode cX10_expr 155 = .ok (.aload_n 0, 1) := by decide +kernel
theorem dX10_expr_156 : decode cX10_expr 156 = .ok (.iload 4, 2) := by decide +kernel
theorem dX10_expr_158 : decode cX10_expr 158 = .ok (.ifCond .ge 7, 3) := by decide +kernel
theorem dX10_expr_161 : decode cX10_expr 161 = .ok (.iconst 0, 1) := by decide +kernel
theorem dX10_expr_162 : decode cX10_expr 162 = .ok (.goto 4, 3) := by decide +kernel
theorem dX10_expr_165 : decode cX10_expr 165 = .ok (.iconst 1, 1) := by decide +kernel
theorem dX10_expr_166 : decode cX10_expr 166 = .ok (.iload 4, 2) := by decide +kernel
theorem dX10_expr_168 : decode cX10_expr 168 = .ok (.ifCond .ge 15, 3) := by decide +kernel
theorem dX10_expr_171 : decode cX10_expr 171 = .ok (.aload_n 0, 1) := by decide +kernel
theorem dX10_expr_172 : decode cX10_expr 172 = .ok (.getfield 19, 3) := by decide +kernel
theorem dX10_expr_175 : decode cX10_expr 175 = .ok (.aload_n 0, 1) := by decide +kernel
theorem dX10_expr_176 : decode cX10_expr 176 = .ok (.getfield 289, 3) := by decide +kernel
theorem dX10_expr_179 : decode cX10_expr 179 = .ok (.iaload, 1) := by decide +kernel
theorem dX10_expr_180 : decode cX10_expr 180 = .ok (.goto 5, 3) := by decide +kernel
theorem dX10_expr_183 : decode cX10_expr 183 = .ok (.iload 4, 2) := by decide +kernel
theorem dX10_expr_185 : decode cX10_expr 185 = .ok (.invokevirtual 327, 3) := by decide +kernel
theorem dX10_expr_188 : decode cX10_expr 188 = .ok (.aload_n 0, 1) := by decide +kernel
theorem dX10_expr_189 : decode cX10_expr 189 = .ok (.invokevirtual 301, 3) := by decide +kernel
theorem dX10_expr_192 : decode cX10_expr 192 = .ok (.ifCond .ne 5, 3) := by decide +kernel
theorem dX10_expr_195 : decode cX10_expr 195 = .ok (.iconst 0, 1) := by decide +kernel
theorem dX10_expr_196 : decode cX10_expr 196 = .ok (.ireturn, 1) := by decide +kernel
theorem dX10_expr_197 : decode cX10_expr 197 = .ok (.aload_n 0, 1) := by decide +kernel
theorem dX10_expr_198 : decode cX10_expr 198 = .ok (.iconst 3, 1) := by decide +kernel
theorem dX10_expr_199 : decode cX10_expr 199 = .ok (.iconst 0, 1) := by decide +kernel
theorem dX10_expr_200 : decode cX10_expr 200 = .ok (.invokevirtual 339, 3) := by decide +kernel
theorem dX10_expr_203 : decode cX10_expr 203 = .ok (.iconst 0, 1) := by decide +kernel
theorem dX10_expr_204 : decode cX10_expr 204 = .ok (.istore_n 2, 1) := by decide +kernel
theorem dX10_expr_205 : decode cX10_expr 205 = .ok (.goto (-181), 3) := by decide +kernel
theorem dX10_expr_208 : decode cX10_expr 208 = .ok (.aload_n 0, 1) := by decide +kernel
theorem dX10_expr_209 : decode cX10_expr 209 = .ok (.bipush 42, 2) := by decide +kernel
theorem dX10_expr_211 : decode cX10_expr 211 = .ok (.invokevirtual 305, 3) := by decide +kernel
theorem dX10_expr_214 : decode cX10_expr 214 = .ok (.ifCond .ne 12, 3) := by decide +kernel
theorem dX10_expr_217 : decode cX10_expr 217 = .ok (.aload_n 0, 1) := by decide +kernel
theorem dX10_expr_218 : decode cX10_expr 218 = .ok (.bipush 47, 2) := by decide +kernel
theorem dX10_expr_220 : decode cX10_expr 220 = .ok (.invokevirtual 305, 3) := by decide +kernel
theorem dX10_expr_223 : decode cX10_expr 223 = .ok (.ifCond .eq 41, 3) := by decide +kernel
theorem dX10_expr_226 : decode cX10_expr 226 = .ok (.aload_n 0, 1) := by decide +kernel
theorem dX10_expr_227 : decode cX10_expr 227 = .ok (.iconst 2, 1) := by decide +kernel
theorem dX10_expr_228 : decode cX10_expr 228 = .ok (.iconst 0, 1) := by decide +kernel
theorem dX10_expr_229 : decode cX10_expr 229 = .ok (.invokevirtual 339, 3) := by decide +kernel
theorem dX10_expr_232 : decode cX10_expr 232 = .ok (.aload_n 0, 1) := by decide +kernel
theorem dX10_expr_233 : decode cX10_expr 233 = .ok (.aload_n 0, 1) := by decide +kernel
theorem dX10_expr_234 : decode cX10_expr 234 = .ok (.bipush 42, 2) := by decide +kernel
theorem dX10_expr_236 : decode cX10_expr 236 = .ok (.invokevirtual 305, 3) := by decide +kernel
theorem dX10_expr_239 : decode cX10_expr 239 = .ok (.ifCond .eq 7, 3) := by decide +kernel
theorem dX10_expr_242 : decode cX10_expr 242 = .ok (.iconst 4, 1) := by decide +kernel
theorem dX10_expr_243 : decode cX10_expr 243 = .ok (.goto 4, 3) := by decide +kernel
theorem dX10_expr_246 : decode cX10_expr 246 = .ok (.iconst 5, 1) := by decide +kernel
theorem dX10_expr_247 : decode cX10_expr 247 = .ok (.invokevirtual 333, 3) := by decide +kernel
theorem dX10_expr_250 : decode cX10_expr 250 = .ok (.aload_n 0, 1) := by decide +kernel
theorem dX10_expr_251 : decode cX10_expr 251 = .ok (.invokevirtual 301, 3) := by decide +kernel
theorem dX10_expr_254 : decode cX10_expr 254 = .ok (.ifCond .ne 5, 3) := by decide +kernel
theorem dX10_expr_257 : decode cX10_expr 257 = .ok (.iconst 0, 1) := by decide +kernel
theorem dX10_expr_258 : decode cX10_expr 258 = .ok (.ireturn, 1) := by decide +kernel
theorem dX10_expr_259 : decode cX10_expr 259 = .ok (.iconst 1, 1) := by decide +kernel
theorem dX10_expr_260 : decode cX10_expr 260 = .ok (.istore_n 2, 1) := by decide +kernel
theorem dX10_expr_261 : decode cX10_expr 261 = .ok (.goto (-237), 3) := by decide +kernel
theorem dX10_expr_264 : decode cX10_expr 264 = .ok (.aload_n 0, 1) := by decide +kernel
theorem dX10_expr_265 : decode cX10_expr 265 = .ok (.bipush 43, 2) := by decide +kernel
theorem dX10_expr_267 : decode cX10_expr 267 = .ok (.invokevirtual 305, 3) := by decide +kernel
theorem dX10_expr_270 : decode cX10_expr 270 = .ok (.ifCond .ne 12, 3) := by decide +kernel
theorem dX10_expr_273 : decode cX10_expr 273 = .ok (.aload_n 0, 1) := by decide +kernel
theorem dX10_expr_274 : decode cX10_expr 274 = .ok (.bipush 45, 2) := by decide +kernel
theorem dX10_expr_276 : decode cX10_expr 276 = .ok (.invokevirtual 305, 3) := by decide +kernel
theorem dX10_expr_279 : decode cX10_expr 279 = .ok (.ifCond .eq 41, 3) := by decide +kernel
theorem dX10_expr_282 : decode cX10_expr 282 = .ok (.aload_n 0, 1) := by decide +kernel
theorem dX10_expr_283 : decode cX10_expr 283 = .ok (.iconst 1, 1) := by decide +kernel
theorem dX10_expr_284 : decode cX10_expr 284 = .ok (.iconst 0, 1) := by decide +kernel
theorem dX10_expr_285 : decode cX10_expr 285 = .ok (.invokevirtual 339, 3) := by decide +kernel
theorem dX10_expr_288 : decode cX10_expr 288 = .ok (.aload_n 0, 1) := by decide +kernel
theorem dX10_expr_289 : decode cX10_expr 289 = .ok (.aload_n 0, 1) := by decide +kernel
theorem dX10_expr_290 : decode cX10_expr 290 = .ok (.bipush 43, 2) := by decide +kernel
theorem dX10_expr_292 : decode cX10_expr 292 = .ok (.invokevirtual 305, 3) := by decide +kernel
theorem dX10_expr_295 : decode cX10_expr 295 = .ok (.ifCond .eq 7, 3) := by decide +kernel
theorem dX10_expr_298 : decode cX10_expr 298 = .ok (.iconst 2, 1) := by decide +kernel
theorem dX10_expr_299 : decode cX10_expr 299 = .ok (.goto 4, 3) := by decide +kernel
theorem dX10_expr_302 : decode cX10_expr 302 = .ok (.iconst 3, 1) := by decide +kernel
theorem dX10_expr_303 : decode cX10_expr 303 = .ok (.invokevirtual 333, 3) := by decide +kernel
theorem dX10_expr_306 : decode cX10_expr 306 = .ok (.aload_n 0, 1) := by decide +kernel
theorem dX10_expr_307 : decode cX10_expr 307 = .ok (.invokevirtual 301, 3) := by decide +kernel
theorem dX10_expr_310 : decode cX10_expr 310 = .ok (.ifCond .ne 5, 3) := by decide +kernel
theorem dX10_expr_313 : decode cX10_expr 313 = .ok (.iconst 0, 1) := by decide +kernel
theorem dX10_expr_314 : decode cX10_expr 314 = .ok (.ireturn, 1) := by decide +kernel
theorem dX10_expr_315 : decode cX10_expr 315 = .ok (.iconst 1, 1) := by decide +kernel
theorem dX10_expr_316 : decode cX10_expr 316 = .ok (.istore_n 2, 1) := by decide +kernel
theorem dX10_expr_317 : decode cX10_expr 317 = .ok (.goto (-293), 3) := by decide +kernel
theorem dX10_expr_320 : decode cX10_expr 320 = .ok (.iload_n 1, 1) := by decide +kernel
theorem dX10_expr_321 : decode cX10_expr 321 = .ok (.ifCond .le 55, 3) := by decide +kernel
theorem dX10_expr_324 : decode cX10_expr 324 = .ok (.aload_n 0, 1) := by decide +kernel
theorem dX10_expr_325 : decode cX10_expr 325 = .ok (.bipush 41, 2) := by decide +kernel
theorem dX10_expr_327 : decode cX10_expr 327 = .ok (.invokevirtual 305, 3) := by decide +kernel
theorem dX10_expr_330 : decode cX10_expr 330 = .ok (.ifCond .ne 9, 3) := by decide +kernel
theorem dX10_expr_333 : decode cX10_expr 333 = .ok (.aload_n 0, 1) := by decide +kernel
theorem dX10_expr_334 : decode cX10_expr 334 = .ok (.iconst 1, 1) := by decide +kernel
theorem dX10_expr_335 : decode cX10_expr 335 = .ok (.invokevirtual 298, 3) := by decide +kernel
theorem dX10_expr_338 : decode cX10_expr 338 = .ok (.ireturn, 1) := by decide +kernel
theorem dX10_expr_339 : decode cX10_expr 339 = .ok (.aload_n 0, 1) := by decide +kernel
theorem dX10_expr_340 : decode cX10_expr 340 = .ok (.invokevirtual 301, 3) := by decide +kernel
theorem dX10_expr_343 : decode cX10_expr 343 = .ok (.ifCond .ne 5, 3) := by decide +kernel
theorem dX10_expr_346 : decode cX10_expr 346 = .ok (.iconst 0, 1) := by decide +kernel
theorem dX10_expr_347 : decode cX10_expr 347 = .ok (.ireturn, 1) := by decide +kernel
theorem dX10_expr_348 : decode cX10_expr 348 = .ok (.aload_n 0, 1) := by decide +kernel
theorem dX10_expr_349 : decode cX10_expr 349 = .ok (.iconst 1, 1) := by decide +kernel
theorem dX10_expr_350 : decode cX10_expr 350 = .ok (.iconst 0, 1) := by decide +kernel
theorem dX10_expr_351 : decode cX10_expr 351 = .ok (.invokevirtual 339, 3) := by decide +kernel
theorem dX10_expr_354 : decode cX10_expr 354 = .ok (.aload_n 0, 1) := by decide +kernel
theorem dX10_expr_355 : decode cX10_expr 355 = .ok (.dup, 1) := by decide +kernel
theorem dX10_expr_356 : decode cX10_expr 356 = .ok (.getfield 321, 3) := by decide +kernel
theorem dX10_expr_359 : decode cX10_expr 359 = .ok (.iconst 1, 1) := by decide +kernel
theorem dX10_expr_360 : decode cX10_expr 360 = .ok (.isub, 1) := by decide +kernel
theorem dX10_expr_361 : decode cX10_expr 361 = .ok (.putfield 321, 3) := by decide +kernel
theorem dX10_expr_364 : decode cX10_expr 364 = .ok (.iinc 1 (-1), 3) := by decide +kernel
theorem dX10_expr_367 : decode cX10_expr 367 = .ok (.aload_n 0, 1) := by decide +kernel
theorem dX10_expr_368 : decode cX10_expr 368 = .ok (.iconst 3, 1) := by decide +kernel
theorem dX10_expr_369 : decode cX10_expr 369 = .ok (.iconst 0, 1) := by decide +kernel
theorem dX10_expr_370 : decode cX10_expr 370 = .ok (.invokevirtual 339, 3) := by decide +kernel
theorem dX10_expr_373 : decode cX10_expr 373 = .ok (.goto (-349), 3) := by decide +kernel
theorem dX10_expr_376 : decode cX10_expr 376 = .ok (.iconst 0, 1) := by decide +kernel
theorem dX10_expr_377 : decode cX10_expr 377 = .ok (.istore_n 3, 1) := by decide +kernel
theorem dX10_expr_378 : decode cX10_expr 378 = .ok (.goto (-354), 3) := by decide +kernel
theorem dX10_expr_381 : decode cX10_expr 381 = .ok (.aload_n 0, 1) := by decide +kernel
theorem dX10_expr_382 : decode cX10_expr 382 = .ok (.iconst 1, 1) := by decide +kernel
theorem dX10_expr_383 : decode cX10_expr 383 = .ok (.iconst 0, 1) := by decide +kernel
theorem dX10_expr_384 : decode cX10_expr 384 = .ok (.invokevirtual 339, 3) := by decide +kernel
theorem dX10_expr_387 : decode cX10_expr 387 = .ok (.iconst 1, 1) := by decide +kernel
theorem dX10_expr_388 : decode cX10_expr 388 = .ok (.ireturn, 1) := by decide +kernel
theorem dX10_cond_0 : decode cX10_cond 0 = .ok (.aload_n 0, 1) := by decide +kernel
theorem dX10_cond_1 : decode cX10_cond 1 = .ok (.aload_n 0, 1) := by decide +kernel
theorem dX10_cond_2 : decode cX10_cond 2 = .ok (.getfield 105, 3) := by decide +kernel
theorem dX10_cond_5 : decode cX10_cond 5 = .ok (.aload_n 0, 1) := by decide +kernel
theorem dX10_cond_6 : decode cX10_cond 6 = .ok (.getfield 318, 3) := by decide +kernel
theorem dX10_cond_9 : decode cX10_cond 9 = .ok (.iaload, 1) := by decide +kernel
theorem dX10_cond_10 : decode cX10_cond 10 = .ok (.putfield 342, 3) := by decide +kernel
theorem dX10_cond_13 : decode cX10_cond 13 = .ok (.iconst 0, 1) := by decide +kernel
theorem dX10_cond_14 : decode cX10_cond 14 = .ok (.istore_n 1, 1) := by decide +kernel
theorem dX10_cond_15 : decode cX10_cond 15 = .ok (.iconst 1, 1) := by decide +kernel
theorem dX10_cond_16 : decode cX10_cond 16 = .ok (.istore_n 2, 1) := by decide +kernel
theorem dX10_cond_17 : decode cX10_cond 17 = .ok (.iload_n 2, 1) := by decide +kernel
theorem dX10_cond_18 : decode cX10_cond 18 = .ok (.ifCond .eq 266, 3) := by decide +kernel
theorem dX10_cond_21 : decode cX10_cond 21 = .ok (.aload_n 0, 1) := by decide +kernel
theorem dX10_cond_22 : decode cX10_cond 22 = .ok (.getfield 105, 3) := by decide +kernel
theorem dX10_cond_25 : decode cX10_cond 25 = .ok (.aload_n 0, 1) := by decide +kernel
theorem dX10_cond_26 : decode cX10_cond 26 = .ok (.getfield 318, 3) := by decide +kernel
theorem dX10_cond_29 : decode cX10_cond 29 = .ok (.iaload, 1) := by decide +kernel
theorem dX10_cond_30 : decode cX10_cond 30 = .ok (.istore_n 3, 1) := by decide +kernel
theorem dX10_cond_31 : decode cX10_cond 31 = .ok (.iconst 0, 1) := by decide +kernel
theorem dX10_cond_32 : decode cX10_cond 32 = .ok (.istore 4, 2) := by decide +kernel
theorem dX10_cond_34 : decode cX10_cond 34 = .ok (.aload_n 0, 1) := by decide +kernel
theorem dX10_cond_35 : decode cX10_cond 35 = .ok (.bipush 10, 2) := by decide +kernel
theorem dX10_cond_37 : decode cX10_cond 37 = .ok (.invokevirtual 345, 3) := by decide +kernel
theorem dX10_cond_40 : decode cX10_cond 40 = .ok (.ifCond .eq 27, 3) := by decide +kernel
theorem dX10_cond_43 : decode cX10_cond 43 = .ok (.aload_n 0, 1) := by decide +kernel
theorem dX10_cond_44 : decode cX10_cond 44 = .ok (.invokevirtual 301, 3) := by decide +kernel
theorem dX10_cond_47 : decode cX10_cond 47 = .ok (.ifCond .ne 5, 3) := by decide +kernel
theorem dX10_cond_50 : decode cX10_cond 50 = .ok (.iconst 0, 1) := by decide +kernel
theorem dX10_cond_51 : decode cX10_cond 51 = .ok (.ireturn, 1) := by decide +kernel
theorem dX10_cond_52 : decode cX10_cond 52 = .ok (.iload 4, 2) := by decide +kernel
theorem dX10_cond_54 : decode cX10_cond 54 = .ok (.ifCond .ne 7, 3) := by decide +kernel
theorem dX10_cond_57 : decode cX10_cond 57 = .ok (.iconst 1, 1) := by decide +kernel
theorem dX10_cond_58 : decode cX10_cond 58 = .ok (.goto 4, 3) := by decide +kernel
theorem dX10_cond_61 : decode cX10_cond 61 = .ok (.iconst 0, 1) := by decide +kernel
theorem dX10_cond_62 : decode cX10_cond 62 = .ok (.istore 4, 2) := by decide +kernel
theorem dX10_cond_64 : decode cX10_cond 64 = .ok (.goto (-30), 3) := by decide +kernel
theorem dX10_cond_67 : decode cX10_cond 67 = .ok (.aload_n 0, 1) := by decide +kernel
theorem dX10_cond_68 : decode cX10_cond 68 = .ok (.invokevirtual 348, 3) := by decide +kernel
theorem dX10_cond_71 : decode cX10_cond 71 = .ok (.ifCond .ne 5, 3) := by decide +kernel
theorem dX10_cond_74 : decode cX10_cond 74 = .ok (.iconst 0, 1) := by decide +kernel
theorem dX10_cond_75 : decode cX10_cond 75 = .ok (.ireturn, 1) := by decide +kernel
theorem dX10_cond_76 : decode cX10_cond 76 = .ok (.aload_n 0, 1) := by decide +kernel
theorem dX10_cond_77 : decode cX10_cond 77 = .ok (.getfield 115, 3) := by decide +kernel
theorem dX10_cond_80 : decode cX10_cond 80 = .ok (.iload_n 3, 1) := by decide +kernel
theorem dX10_cond_81 : decode cX10_cond 81 = .ok (.aload_n 0, 1) := by decide +kernel
theorem dX10_cond_82 : decode cX10_cond 82 = .ok (.getfield 330, 3) := by decide +kernel
theorem dX10_cond_85 : decode cX10_cond 85 = .ok (.iastore, 1) := by decide +kernel
theorem dX10_cond_86 : decode cX10_cond 86 = .ok (.aload_n 0, 1) := by decide +kernel
theorem dX10_cond_87 : decode cX10_cond 87 = .ok (.getfield 118, 3) := by decide +kernel
theorem dX10_cond_90 : decode cX10_cond 90 = .ok (.iload_n 3, 1) := by decide +kernel
theorem dX10_cond_91 : decode cX10_cond 91 = .ok (.aload_n 0, 1) := by decide +kernel
theorem dX10_cond_92 : decode cX10_cond 92 = .ok (.getfield 96, 3) := by decide +kernel
theorem dX10_cond_95 : decode cX10_cond 95 = .ok (.aload_n 0, 1) := by decide +kernel
theorem dX10_cond_96 : decode cX10_cond 96 = .ok (.getfield 318, 3) := by decide +kernel
theorem dX10_cond_99 : decode cX10_cond 99 = .ok (.iaload, 1) := by decide +kernel
theorem dX10_cond_100 : decode cX10_cond 100 = .ok (.iastore, 1) := by decide +kernel
theorem dX10_cond_101 : decode cX10_cond 101 = .ok (.aload_n 0, 1) := by decide +kernel
theorem dX10_cond_102 : decode cX10_cond 102 = .ok (.sipush 300, 3) := by decide +kernel
theorem dX10_cond_105 : decode cX10_cond 105 = .ok (.invokevirtual 305, 3) := by decide +kernel
theorem dX10_cond_108 : decode cX10_cond 108 = .ok (.ifCond .ne 32, 3) := by decide +kernel
theorem dX10_cond_111 : decode cX10_cond 111 = .ok (.aload_n 0, 1) := by decide +kernel
theorem dX10_cond_112 : decode cX10_cond 112 = .ok (.sipush 301, 3) := by decide +kernel
theorem dX10_cond_115 : decode cX10_cond 115 = .ok (.invokevirtual 305, 3) := by decide +kernel
theorem dX10_cond_118 : decode cX10_cond 118 = .ok (.ifCond .ne 22, 3) := by decide +kernel
theorem dX10_cond_121 : decode cX10_cond 121 = .ok (.aload_n 0, 1) := by decide +kernel
theorem dX10_cond_122 : decode cX10_cond 122 = .ok (.sipush 302, 3) := by decide +kernel
theorem dX10_cond_125 : decode cX10_cond 125 = .ok (.invokevirtual 305, 3) := by decide +kernel
theorem dX10_cond_128 : decode cX10_cond 128 = .ok (.ifCond .ne 12, 3) := by decide +kernel
theorem dX10_cond_131 : decode cX10_cond 131 = .ok (.aload_n 0, 1) := by decide +kernel
theorem dX10_cond_132 : decode cX10_cond 132 = .ok (.bipush 60, 2) := by decide +kernel
theorem dX10_cond_134 : decode cX10_cond 134 = .ok (.invokevirtual 305, 3) := by decide +kernel
theorem dX10_cond_137 : decode cX10_cond 137 = .ok (.ifCond .eq 7, 3) := by decide +kernel
theorem dX10_cond_140 : decode cX10_cond 140 = .ok (.iconst 1, 1) := by decide +kernel
theorem dX10_cond_141 : decode cX10_cond 141 = .ok (.goto 4, 3) := by decide +kernel
theorem dX10_cond_144 : decode cX10_cond 144 = .ok (.iconst 0, 1) := by decide +kernel
theorem dX10_cond_145 : decode cX10_cond 145 = .ok (.istore 5, 2) := by decide +kernel
theorem dX10_cond_147 : decode cX10_cond 147 = .ok (.iload 5, 2) := by decide +kernel
theorem dX10_cond_149 : decode cX10_cond 149 = .ok (.ifCond .ne 9, 3) := by decide +kernel
theorem dX10_cond_152 : decode cX10_cond 152 = .ok (.aload_n 0, 1) := by decide +kernel
theorem dX10_cond_153 : decode cX10_cond 153 = .ok (.iconst 1, 1) := by decide +kernel
theorem dX10_cond_154 : decode cX10_cond 154 = .ok (.invokevirtual 298, 3) := by decide +kernel
theorem dX10_cond_157 : decode cX10_cond 157 = .ok (.ireturn, 1) := by decide +kernel
theorem dX10_cond_158 : decode cX10_cond 158 = .ok (.aload_n 0, 1) := by decide +kernel
theorem dX10_cond_159 : decode cX10_cond 159 = .ok (.getfield 112, 3) := by decide +kernel
theorem dX10_cond_162 : decode cX10_cond 162 = .ok (.iload_n 3, 1) := by decide +kernel
theorem dX10_cond_163 : decode cX10_cond 163 = .ok (.aload_n 0, 1) := by decide +kernel
theorem dX10_cond_164 : decode cX10_cond 164 = .ok (.getfield 19, 3) := by decide +kernel
theorem dX10_cond_167 : decode cX10_cond 167 = .ok (.aload_n 0, 1) := by decide +kernel
theorem dX10_cond_168 : decode cX10_cond 168 = .ok (.getfield 289, 3) := by decide +kernel
theorem dX10_cond_171 : decode cX10_cond 171 = .ok (.iaload, 1) := by decide +kernel
theorem dX10_cond_172 : decode cX10_cond 172 = .ok (.iastore, 1) := by decide +kernel
theorem dX10_cond_173 : decode cX10_cond 173 = .ok (.aload_n 0, 1) := by decide +kernel
theorem dX10_cond_174 : decode cX10_cond 174 = .ok (.invokevirtual 301, 3) := by decide +kernel
theorem dX10_cond_177 : decode cX10_cond 177 = .ok (.ifCond .eq 10, 3) := by decide +kernel
theorem dX10_cond_180 : decode cX10_cond 180 = .ok (.aload_n 0, 1) := by decide +kernel
theorem dX10_cond_181 : decode cX10_cond 181 = .ok (.invokevirtual 348, 3) := by decide +kernel
theorem dX10_cond_184 : decode cX10_cond 184 = .ok (.ifCond .ne 5, 3) := by decide +kernel
theorem dX10_cond_187 : decode cX10_cond 187 = .ok (.iconst 0, 1) := by decide +kernel
theorem dX10_cond_188 : decode cX10_cond 188 = .ok (.ireturn, 1) := by decide +kernel
theorem dX10_cond_189 : decode cX10_cond 189 = .ok (.aload_n 0, 1) := by decide +kernel
theorem dX10_cond_190 : decode cX10_cond 190 = .ok (.getfield 121, 3) := by decide +kernel
theorem dX10_cond_193 : decode cX10_cond 193 = .ok (.iload_n 3, 1) := by decide +kernel
theorem dX10_cond_194 : decode cX10_cond 194 = .ok (.aload_n 0, 1) := by decide +kernel
theorem dX10_cond_195 : decode cX10_cond 195 = .ok (.getfield 96, 3) := by decide +kernel
theorem dX10_cond_198 : decode cX10_cond 198 = .ok (.aload_n 0, 1) := by decide +kernel
theorem dX10_cond_199 : decode cX10_cond 199 = .ok (.getfield 318, 3) := by decide +kernel
theorem dX10_cond_202 : decode cX10_cond 202 = .ok (.iaload, 1) := by decide +kernel
theorem dX10_cond_203 : decode cX10_cond 203 = .ok (.iastore, 1) := by decide +kernel
theorem dX10_cond_204 : decode cX10_cond 204 = .ok (.aload_n 0, 1) := by decide +kernel
theorem dX10_cond_205 : decode cX10_cond 205 = .ok (.getfield 108, 3) := by decide +kernel
theorem dX10_cond_208 : decode cX10_cond 208 = .ok (.iload_n 3, 1) := by decide +kernel
theorem dX10_cond_209 : decode cX10_cond 209 = .ok (.iload 4, 2) := by decide +kernel
theorem dX10_cond_211 : decode cX10_cond 211 = .ok (.bastore, 1) := by decide +kernel
theorem dX10_cond_212 : decode cX10_cond 212 = .ok (.aload_n 0, 1) := by decide +kernel
theorem dX10_cond_213 : decode cX10_cond 213 = .ok (.getfield 124, 3) := by decide +kernel
theorem dX10_cond_216 : decode cX10_cond 216 = .ok (.iload_n 3, 1) := by decide +kernel
theorem dX10_cond_217 : decode cX10_cond 217 = .ok (.iload_n 1, 1) := by decide +kernel
theorem dX10_cond_218 : decode cX10_cond 218 = .ok (.iastore, 1) := by decide +kernel
theorem dX10_cond_219 : decode cX10_cond 219 = .ok (.aload_n 0, 1) := by decide +kernel
theorem dX10_cond_220 : decode cX10_cond 220 = .ok (.getfield 105, 3) := by decide +kernel
theorem dX10_cond_223 : decode cX10_cond 223 = .ok (.aload_n 0, 1) := by decide +kernel
theorem dX10_cond_224 : decode cX10_cond 224 = .ok (.getfield 318, 3) := by decide +kernel
theorem dX10_cond_227 : decode cX10_cond 227 = .ok (.dup2, 1) := by decide +kernel
theorem dX10_cond_228 : decode cX10_cond 228 = .ok (.iaload, 1) := by decide +kernel
theorem dX10_cond_229 : decode cX10_cond 229 = .ok (.iconst 1, 1) := by decide +kernel
theorem dX10_cond_230 : decode cX10_cond 230 = .ok (.iadd, 1) := by decide +kernel
theorem dX10_cond_231 : decode cX10_cond 231 = .ok (.iastore, 1) := by decide +kernel
theorem dX10_cond_232 : decode cX10_cond 232 = .ok (.aload_n 0, 1) := by decide +kernel
theorem dX10_cond_233 : decode cX10_cond 233 = .ok (.bipush 11, 2) := by decide +kernel
theorem dX10_cond_235 : decode cX10_cond 235 = .ok (.invokevirtual 345, 3) := by decide +kernel
