theorem dX12_book_26 : decode cX12_book 26 = .ok (.aload_n 0, 1) := by decide +kernel
theorem dX12_book_27 : decode cX12_book 27 = .ok (.getfield 199, 3) := by decide +kernel
theorem dX12_book_30 : decode cX12_book 30 = .ok (.putfield 282, 3) := by decide +kernel
theorem dX12_book_33 : decode cX12_book 33 = .ok (.aload_n 0, 1) := by decide +kernel
theorem dX12_book_34 : decode cX12_book 34 = .ok (.aload_n 0, 1) := by decide +kernel
theorem dX12_book_35 : decode cX12_book 35 = .ok (.getfield 206, 3) := by decide +kernel
theorem dX12_book_38 : decode cX12_book 38 = .ok (.putfield 285, 3) := by decide +kernel
theorem dX12_book_41 : decode cX12_book 41 = .ok (.aload_n 0, 1) := by decide +kernel
theorem dX12_book_42 : decode cX12_book 42 = .ok (.aload_n 0, 1) := by decide +kernel
theorem dX12_book_43 : decode cX12_book 43 = .ok (.getfield 229, 3) := by decide +kernel
theorem dX12_book_46 : decode cX12_book 46 = .ok (.putfield 288, 3) := by decide +kernel
theorem dX12_book_49 : decode cX12_book 49 = .ok (.aload_n 0, 1) := by decide +kernel
theorem dX12_book_50 : decode cX12_book 50 = .ok (.aload_n 0, 1) := by decide +kernel
theorem dX12_book_51 : decode cX12_book 51 = .ok (.getfield 273, 3) := by decide +kernel
theorem dX12_book_54 : decode cX12_book 54 = .ok (.putfield 291, 3) := by decide +kernel
theorem dX12_book_57 : decode cX12_book 57 = .ok (.aload_n 0, 1) := by decide +kernel
theorem dX12_book_58 : decode cX12_book 58 = .ok (.aload_n 0, 1) := by decide +kernel
theorem dX12_book_59 : decode cX12_book 59 = .ok (.getfield 222, 3) := by decide +kernel
theorem dX12_book_62 : decode cX12_book 62 = .ok (.putfield 294, 3) := by decide +kernel
theorem dX12_book_65 : decode cX12_book 65 = .ok (.iconst 0, 1) := by decide +kernel
theorem dX12_book_66 : decode cX12_book 66 = .ok (.istore_n 2, 1) := by decide +kernel
theorem dX12_book_67 : decode cX12_book 67 = .ok (.iload_n 2, 1) := by decide +kernel
theorem dX12_book_68 : decode cX12_book 68 = .ok (.aload_n 0, 1) := by decide +kernel
theorem dX12_book_69 : decode cX12_book 69 = .ok (.getfield 282, 3) := by decide +kernel
theorem dX12_book_72 : decode cX12_book 72 = .ok (.if_icmp .ge 37, 3) := by decide +kernel
theorem dX12_book_75 : decode cX12_book 75 = .ok (.aload_n 0, 1) := by decide +kernel
theorem dX12_book_76 : decode cX12_book 76 = .ok (.getfield 7, 3) := by decide +kernel
theorem dX12_book_79 : decode cX12_book 79 = .ok (.iload_n 2, 1) := by decide +kernel
theorem dX12_book_80 : decode cX12_book 80 = .ok (.aload_n 0, 1) := by decide +kernel
theorem dX12_book_81 : decode cX12_book 81 = .ok (.getfield 7, 3) := by decide +kernel
theorem dX12_book_84 : decode cX12_book 84 = .ok (.iconst 5, 1) := by decide +kernel
theorem dX12_book_85 : decode cX12_book 85 = .ok (.iload_n 2, 1) := by decide +kernel
theorem dX12_book_86 : decode cX12_book 86 = .ok (.iadd, 1) := by decide +kernel
theorem dX12_book_87 : decode cX12_book 87 = .ok (.iaload, 1) := by decide +kernel
theorem dX12_book_88 : decode cX12_book 88 = .ok (.iastore, 1) := by decide +kernel
theorem dX12_book_89 : decode cX12_book 89 = .ok (.aload_n 0, 1) := by decide +kernel
theorem dX12_book_90 : decode cX12_book 90 = .ok (.getfield 13, 3) := by decide +kernel
theorem dX12_book_93 : decode cX12_book 93 = .ok (.iload_n 2, 1) := by decide +kernel
theorem dX12_book_94 : decode cX12_book 94 = .ok (.aload_n 0, 1) := by decide +kernel
theorem dX12_book_95 : decode cX12_book 95 = .ok (.getfield 13, 3) := by decide +kernel
theorem dX12_book_98 : decode cX12_book 98 = .ok (.iconst 5, 1) := by decide +kernel
theorem dX12_book_99 : decode cX12_book 99 = .ok (.iload_n 2, 1) := by decide +kernel
theorem dX12_book_100 : decode cX12_book 100 = .ok (.iadd, 1) := by decide +kernel
theorem dX12_book_101 : decode cX12_book 101 = .ok (.iaload, 1) := by decide +kernel
theorem dX12_book_102 : decode cX12_book 102 = .ok (.iastore, 1) := by decide +kernel
theorem dX12_book_103 : decode cX12_book 103 = .ok (.iinc 2 1, 3) := by decide +kernel
theorem dX12_book_106 : decode cX12_book 106 = .ok (.goto (-39), 3) := by decide +kernel
theorem dX12_book_109 : decode cX12_book 109 = .ok (.iconst 0, 1) := by decide +kernel
theorem dX12_book_110 : decode cX12_book 110 = .ok (.istore_n 2, 1) := by decide +kernel
theorem dX12_book_111 : decode cX12_book 111 = .ok (.iload_n 2, 1) := by decide +kernel
theorem dX12_book_112 : decode cX12_book 112 = .ok (.aload_n 0, 1) := by decide +kernel
theorem dX12_book_113 : decode cX12_book 113 = .ok (.getfield 294, 3) := by decide +kernel
theorem dX12_book_116 : decode cX12_book 116 = .ok (.if_icmp .ge 69, 3) := by decide +kernel
theorem dX12_book_119 : decode cX12_book 119 = .ok (.aload_n 0, 1) := by decide +kernel
theorem dX12_book_120 : decode cX12_book 120 = .ok (.getfield 28, 3) := by decide +kernel
theorem dX12_book_123 : decode cX12_book 123 = .ok (.iload_n 2, 1) := by decide +kernel
theorem dX12_book_124 : decode cX12_book 124 = .ok (.aload_n 0, 1) := by decide +kernel
theorem dX12_book_125 : decode cX12_book 125 = .ok (.getfield 28, 3) := by decide +kernel
theorem dX12_book_128 : decode cX12_book 128 = .ok (.bipush 40, 2) := by decide +kernel
theorem dX12_book_130 : decode cX12_book 130 = .ok (.iload_n 2, 1) := by decide +kernel
theorem dX12_book_131 : decode cX12_book 131 = .ok (.iadd, 1) := by decide +kernel
theorem dX12_book_132 : decode cX12_book 132 = .ok (.iaload, 1) := by decide +kernel
theorem dX12_book_133 : decode cX12_book 133 = .ok (.iastore, 1) := by decide +kernel
theorem dX12_book_134 : decode cX12_book 134 = .ok (.aload_n 0, 1) := by decide +kernel
theorem dX12_book_135 : decode cX12_book 135 = .ok (.getfield 31, 3) := by decide +kernel
theorem dX12_book_138 : decode cX12_book 138 = .ok (.iload_n 2, 1) := by decide +kernel
theorem dX12_book_139 : decode cX12_book 139 = .ok (.aload_n 0, 1) := by decide +kernel
theorem dX12_book_140 : decode cX12_book 140 = .ok (.getfield 31, 3) := by decide +kernel
theorem dX12_book_143 : decode cX12_book 143 = .ok (.bipush 40, 2) := by decide +kernel
theorem dX12_book_145 : decode cX12_book 145 = .ok (.iload_n 2, 1) := by decide +kernel
theorem dX12_book_146 : decode cX12_book 146 = .ok (.iadd, 1) := by decide +kernel
theorem dX12_book_147 : decode cX12_book 147 = .ok (.iaload, 1) := by decide +kernel
theorem dX12_book_148 : decode cX12_book 148 = .ok (.iastore, 1) := by decide +kernel
theorem dX12_book_149 : decode cX12_book 149 = .ok (.aload_n 0, 1) := by decide +kernel
theorem dX12_book_150 : decode cX12_book 150 = .ok (.getfield 34, 3) := by decide +kernel
theorem dX12_book_153 : decode cX12_book 153 = .ok (.iload_n 2, 1) := by decide +kernel
theorem dX12_book_154 : decode cX12_book 154 = .ok (.aload_n 0, 1) := by decide +kernel
theorem dX12_book_155 : decode cX12_book 155 = .ok (.getfield 34, 3) := by decide +kernel
theorem dX12_book_158 : decode cX12_book 158 = .ok (.bipush 40, 2) := by decide +kernel
theorem dX12_book_160 : decode cX12_book 160 = .ok (.iload_n 2, 1) := by decide +kernel
theorem dX12_book_161 : decode cX12_book 161 = .ok (.iadd, 1) := by decide +kernel
theorem dX12_book_162 : decode cX12_book 162 = .ok (.iaload, 1) := by decide +kernel
theorem dX12_book_163 : decode cX12_book 163 = .ok (.iastore, 1) := by decide +kernel
theorem dX12_book_164 : decode cX12_book 164 = .ok (.aload_n 0, 1) := by decide +kernel
theorem dX12_book_165 : decode cX12_book 165 = .ok (.getfield 37, 3) := by decide +kernel
theorem dX12_book_168 : decode cX12_book 168 = .ok (.iload_n 2, 1) := by decide +kernel
theorem dX12_book_169 : decode cX12_book 169 = .ok (.aload_n 0, 1) := by decide +kernel
theorem dX12_book_170 : decode cX12_book 170 = .ok (.getfield 37, 3) := by decide +kernel
theorem dX12_book_173 : decode cX12_book 173 = .ok (.bipush 40, 2) := by decide +kernel
theorem dX12_book_175 : decode cX12_book 175 = .ok (.iload_n 2, 1) := by decide +kernel
theorem dX12_book_176 : decode cX12_book 176 = .ok (.iadd, 1) := by decide +kernel
theorem dX12_book_177 : decode cX12_book 177 = .ok (.iaload, 1) := by decide +kernel
theorem dX12_book_178 : decode cX12_book 178 = .ok (.iastore, 1) := by decide +kernel
theorem dX12_book_179 : decode cX12_book 179 = .ok (.iinc 2 1, 3) := by decide +kernel
theorem dX12_book_182 : decode cX12_book 182 = .ok (.goto (-71), 3) := by decide +kernel
theorem dX12_book_185 : decode cX12_book 185 = .ok (.iconst 0, 1) := by decide +kernel
theorem dX12_book_186 : decode cX12_book 186 = .ok (.istore_n 2, 1) := by decide +kernel
theorem dX12_book_187 : decode cX12_book 187 = .ok (.iload_n 2, 1) := by decide +kernel
theorem dX12_book_188 : decode cX12_book 188 = .ok (.aload_n 0, 1) := by decide +kernel
theorem dX12_book_189 : decode cX12_book 189 = .ok (.getfield 288, 3) := by decide +kernel
theorem dX12_book_192 : decode cX12_book 192 = .ok (.if_icmp .ge 18, 3) := by decide +kernel
theorem dX12_book_195 : decode cX12_book 195 = .ok (.aload_n 0, 1) := by decide +kernel
theorem dX12_book_196 : decode cX12_book 196 = .ok (.iload_n 2, 1) := by decide +kernel
theorem dX12_book_197 : decode cX12_book 197 = .ok (.bipush 12, 2) := by decide +kernel
theorem dX12_book_199 : decode cX12_book 199 = .ok (.iload_n 2, 1) := by decide +kernel
theorem dX12_book_200 : decode cX12_book 200 = .ok (.iadd, 1) := by decide +kernel
theorem dX12_book_201 : decode cX12_book 201 = .ok (.invokevirtual 297, 3) := by decide +kernel
theorem dX12_book_204 : decode cX12_book 204 = .ok (.iinc 2 1, 3) := by decide +kernel
theorem dX12_book_207 : decode cX12_book 207 = .ok (.goto (-20), 3) := by decide +kernel
theorem dX12_book_210 : decode cX12_book 210 = .ok (.sipush 700, 3) := by decide +kernel
theorem dX12_book_213 : decode cX12_book 213 = .ok (.istore_n 2, 1) := by decide +kernel
theorem dX12_book_214 : decode cX12_book 214 = .ok (.iload_n 2, 1) := by decide +kernel
theorem dX12_book_215 : decode cX12_book 215 = .ok (.aload_n 0, 1) := by decide +kernel
theorem dX12_book_216 : decode cX12_book 216 = .ok (.getfield 235, 3) := by decide +kernel
theorem dX12_book_219 : decode cX12_book 219 = .ok (.if_icmp .ge 57, 3) := by decide +kernel
theorem dX12_book_222 : decode cX12_book 222 = .ok (.aload_n 0, 1) := by decide +kernel
theorem dX12_book_223 : decode cX12_book 223 = .ok (.getfield 52, 3) := by decide +kernel
theorem dX12_book_226 : decode cX12_book 226 = .ok (.iload_n 2, 1) := by decide +kernel
theorem dX12_book_227 : decode cX12_book 227 = .ok (.sipush 700, 3) := by decide +kernel
theorem dX12_book_230 : decode cX12_book 230 = .ok (.isub, 1) := by decide +kernel
theorem dX12_book_231 : decode cX12_book 231 = .ok (.aload_n 0, 1) := by decide +kernel
theorem dX12_book_232 : decode cX12_book 232 = .ok (.getfield 52, 3) := by decide +kernel
theorem dX12_book_235 : decode cX12_book 235 = .ok (.iload_n 2, 1) := by decide +kernel
theorem dX12_book_236 : decode cX12_book 236 = .ok (.iaload, 1) := by decide +kernel
theorem dX12_book_237 : decode cX12_book 237 = .ok (.iastore, 1) := by decide +kernel
theorem dX12_book_238 : decode cX12_book 238 = .ok (.aload_n 0, 1) := by decide +kernel
theorem dX12_book_239 : decode cX12_book 239 = .ok (.getfield 55, 3) := by decide +kernel
theorem dX12_book_242 : decode cX12_book 242 = .ok (.iload_n 2, 1) := by decide +kernel
theorem dX12_book_243 : decode cX12_book 243 = .ok (.sipush 700, 3) := by decide +kernel
theorem dX12_book_246 : decode cX12_book 246 = .ok (.isub, 1) := by decide +kernel
theorem dX12_book_247 : decode cX12_book 247 = .ok (.aload_n 0, 1) := by decide +kernel
theorem dX12_book_248 : decode cX12_book 248 = .ok (.getfield 55, 3) := by decide +kernel
theorem dX12_book_251 : decode cX12_book 251 = .ok (.iload_n 2, 1) := by decide +kernel
theorem dX12_book_252 : decode cX12_book 252 = .ok (.iaload, 1) := by decide +kernel
theorem dX12_book_253 : decode cX12_book 253 = .ok (.iastore, 1) := by decide +kernel
theorem dX12_book_254 : decode cX12_book 254 = .ok (.aload_n 0, 1) := by decide +kernel
theorem dX12_book_255 : decode cX12_book 255 = .ok (.getfield 58, 3) := by decide +kernel
theorem dX12_book_258 : decode cX12_book 258 = .ok (.iload_n 2, 1) := by decide +kernel
theorem dX12_book_259 : decode cX12_book 259 = .ok (.sipush 700, 3) := by decide +kernel
theorem dX12_book_262 : decode cX12_book 262 = .ok (.isub, 1) := by decide +kernel
theorem dX12_book_263 : decode cX12_book 263 = .ok (.aload_n 0, 1) := by decide +kernel
theorem dX12_book_264 : decode cX12_book 264 = .ok (.getfield 58, 3) := by decide +kernel
theorem dX12_book_267 : decode cX12_book 267 = .ok (.iload_n 2, 1) := by decide +kernel
theorem dX12_book_268 : decode cX12_book 268 = .ok (.iaload, 1) := by decide +kernel
theorem dX12_book_269 : decode cX12_book 269 = .ok (.iastore, 1) := by decide +kernel
theorem dX12_book_270 : decode cX12_book 270 = .ok (.iinc 2 1, 3) := by decide +kernel
theorem dX12_book_273 : decode cX12_book 273 = .ok (.goto (-59), 3) := by decide +kernel
theorem dX12_book_276 : decode cX12_book 276 = .ok (.iconst 0, 1) := by decide +kernel
theorem dX12_book_277 : decode cX12_book 277 = .ok (.istore_n 2, 1) := by decide +kernel
theorem dX12_book_278 : decode cX12_book 278 = .ok (.iload_n 2, 1) := by decide +kernel
theorem dX12_book_279 : decode cX12_book 279 = .ok (.bipush 45, 2) := by decide +kernel
theorem dX12_book_281 : decode cX12_book 281 = .ok (.if_icmp .ge 16, 3) := by decide +kernel
theorem dX12_book_284 : decode cX12_book 284 = .ok (.aload_n 0, 1) := by decide +kernel
theorem dX12_book_285 : decode cX12_book 285 = .ok (.getfield 118, 3) := by decide +kernel
theorem dX12_book_288 : decode cX12_book 288 = .ok (.iload_n 2, 1) := by decide +kernel
theorem dX12_book_289 : decode cX12_book 289 = .ok (.iconst 0, 1) := by decide +kernel
theorem dX12_book_290 : decode cX12_book 290 = .ok (.iastore, 1) := by decide +kernel
theorem dX12_book_291 : decode cX12_book 291 = .ok (.iinc 2 1, 3) := by decide +kernel
theorem dX12_book_294 : decode cX12_book 294 = .ok (.goto (-16), 3) := by decide +kernel
theorem dX12_book_297 : decode cX12_book 297 = .ok (.iconst 0, 1) := by decide +kernel
theorem dX12_book_298 : decode cX12_book 298 = .ok (.istore_n 2, 1) := by decide +kernel
theorem dX12_book_299 : decode cX12_book 299 = .ok (.iload_n 2, 1) := by decide +kernel
theorem dX12_book_300 : decode cX12_book 300 = .ok (.bipush 6, 2) := by decide +kernel
theorem dX12_book_302 : decode cX12_book 302 = .ok (.if_icmp .ge 16, 3) := by decide +kernel
theorem dX12_book_305 : decode cX12_book 305 = .ok (.aload_n 0, 1) := by decide +kernel
theorem dX12_book_306 : decode cX12_book 306 = .ok (.getfield 103, 3) := by decide +kernel
theorem dX12_book_309 : decode cX12_book 309 = .ok (.iload_n 2, 1) := by decide +kernel
theorem dX12_book_310 : decode cX12_book 310 = .ok (.iconst 0, 1) := by decide +kernel
theorem dX12_book_311 : decode cX12_book 311 = .ok (.iastore, 1) := by decide +kernel
theorem dX12_book_312 : decode cX12_book 312 = .ok (.iinc 2 1, 3) := by decide +kernel
theorem dX12_book_315 : decode cX12_book 315 = .ok (.goto (-16), 3) := by decide +kernel
theorem dX12_book_318 : decode cX12_book 318 = .ok (.aload_n 0, 1) := by decide +kernel
theorem dX12_book_319 : decode cX12_book 319 = .ok (.iconst 0, 1) := by decide +kernel
theorem dX12_book_320 : decode cX12_book 320 = .ok (.putfield 301, 3) := by decide +kernel
theorem dX12_book_323 : decode cX12_book 323 = .ok (.aload_n 0, 1) := by decide +kernel
theorem dX12_book_324 : decode cX12_book 324 = .ok (.iconst 0, 1) := by decide +kernel
theorem dX12_book_325 : decode cX12_book 325 = .ok (.putfield 304, 3) := by decide +kernel
theorem dX12_book_328 : decode cX12_book 328 = .ok (.aload_n 0, 1) := by decide +kernel
theorem dX12_book_329 : decode cX12_book 329 = .ok (.iconst 0, 1) := by decide +kernel
theorem dX12_book_330 : decode cX12_book 330 = .ok (.putfield 307, 3) := by decide +kernel
theorem dX12_book_333 : decode cX12_book 333 = .ok (.aload_n 0, 1) := by decide +kernel
theorem dX12_book_334 : decode cX12_book 334 = .ok (.iconst 0, 1) := by decide +kernel
theorem dX12_book_335 : decode cX12_book 335 = .ok (.putfield 310, 3) := by decide +kernel
theorem dX12_book_338 : decode cX12_book 338 = .ok (.aload_n 0, 1) := by decide +kernel
theorem dX12_book_339 : decode cX12_book 339 = .ok (.dup, 1) := by decide +kernel
theorem dX12_book_340 : decode cX12_book 340 = .ok (.getfield 313, 3) := by decide +kernel
theorem dX12_book_343 : decode cX12_book 343 = .ok (.iconst 1, 1) := by decide +kernel
theorem dX12_book_344 : decode cX12_book 344 = .ok (.iadd, 1) := by decide +kernel
theorem dX12_book_345 : decode cX12_book 345 = .ok (.putfield 313, 3) := by decide +kernel
theorem dX12_book_348 : decode cX12_book 348 = .ok (.aload_n 0, 1) := by decide +kernel
theorem dX12_book_349 : decode cX12_book 349 = .ok (.invokevirtual 124, 3) := by decide +kernel
theorem dX12_book_352 : decode cX12_book 352 = .ok (.aload_n 0, 1) := by decide +kernel
theorem dX12_book_353 : decode cX12_book 353 = .ok (.getfield 288, 3) := by decide +kernel
theorem dX12_book_356 : decode cX12_book 356 = .ok (.ireturn, 1) := by decide +kernel
theorem dX12_takesOver_0 : decode cX12_takesOver 0 = .ok (.aload_n 0, 1) := by decide +kernel
theorem dX12_takesOver_1 : decode cX12_takesOver 1 = .ok (.getfield 16, 3) := by decide +kernel
theorem dX12_takesOver_4 : decode cX12_takesOver 4 = .ok (.iload_n 1, 1) := by decide +kernel
theorem dX12_takesOver_5 : decode cX12_takesOver 5 = .ok (.aload_n 0, 1) := by decide +kernel
theorem dX12_takesOver_6 : decode cX12_takesOver 6 = .ok (.getfield 16, 3) := by decide +kernel
theorem dX12_takesOver_9 : decode cX12_takesOver 9 = .ok (.iload_n 2, 1) := by decide +kernel
theorem dX12_takesOver_10 : decode cX12_takesOver 10 = .ok (.iaload, 1) := by decide +kernel
theorem dX12_takesOver_11 : decode cX12_takesOver 11 = .ok (.iastore, 1) := by decide +kernel
theorem dX12_takesOver_12 : decode cX12_takesOver 12 = .ok (.aload_n 0, 1) := by decide +kernel
theorem dX12_takesOver_13 : decode cX12_takesOver 13 = .ok (.getfield 19, 3) := by decide +kernel
theorem dX12_takesOver_16 : decode cX12_takesOver 16 = .ok (.iload_n 1, 1) := by decide +kernel
theorem dX12_takesOver_17 : decode cX12_takesOver 17 = .ok (.aload_n 0, 1) := by decide +kernel
theorem dX12_takesOver_18 : decode cX12_takesOver 18 = .ok (.getfield 19, 3) := by decide +kernel
theorem dX12_takesOver_21 : decode cX12_takesOver 21 = .ok (.iload_n 2, 1) := by decide +kernel
theorem dX12_takesOver_22 : decode cX12_takesOver 22 = .ok (.iaload, 1) := by decide +kernel
theorem dX12_takesOver_23 : decode cX12_takesOver 23 = .ok (.iastore, 1) := by decide +kernel
theorem dX12_takesOver_24 : decode cX12_takesOver 24 = .ok (.aload_n 0, 1) := by decide +kernel
theorem dX12_takesOver_25 : decode cX12_takesOver 25 = .ok (.getfield 22, 3) := by decide +kernel
theorem dX12_takesOver_28 : decode cX12_takesOver 28 = .ok (.iload_n 1, 1) := by decide +kernel
theorem dX12_takesOver_29 : decode cX12_takesOver 29 = .ok (.aload_n 0, 1) := by decide +kernel
theorem dX12_takesOver_30 : decode cX12_takesOver 30 = .ok (.getfield 22, 3) := by decide +kernel
theorem dX12_takesOver_33 : decode cX12_takesOver 33 = .ok (.iload_n 2, 1) := by decide +kernel
theorem dX12_takesOver_34 : decode cX12_takesOver 34 = .ok (.iaload, 1) := by decide +kernel
theorem dX12_takesOver_35 : decode cX12_takesOver 35 = .ok (.iastore, 1) := by decide +kernel
theorem dX12_takesOver_36 : decode cX12_takesOver 36 = .ok (.aload_n 0, 1) := by decide +kernel
theorem dX12_takesOver_37 : decode cX12_takesOver 37 = .ok (.getfield 25, 3) := by decide +kernel
theorem dX12_takesOver_40 : decode cX12_takesOver 40 = .ok (.iload_n 1, 1) := by decide +kernel
theorem dX12_takesOver_41 : decode cX12_takesOver 41 = .ok (.aload_n 0, 1) := by decide +kernel
theorem dX12_takesOver_42 : decode cX12_takesOver 42 = .ok (.getfield 25, 3) := by decide +kernel
theorem dX12_takesOver_45 : decode cX12_takesOver 45 = .ok (.iload_n 2, 1) := by decide +kernel
theorem dX12_takesOver_46 : decode cX12_takesOver 46 = .ok (.iaload, 1) := by decide +kernel
theorem dX12_takesOver_47 : decode cX12_takesOver 47 = .ok (.iastore, 1) := by decide +kernel
theorem dX12_takesOver_48 : decode cX12_takesOver 48 = .ok (.aload_n 0, 1) := by decide +kernel
theorem dX12_takesOver_49 : decode cX12_takesOver 49 = .ok (.getfield 40, 3) := by decide +kernel
theorem dX12_takesOver_52 : decode cX12_takesOver 52 = .ok (.iload_n 1, 1) := by decide +kernel
theorem dX12_takesOver_53 : decode cX12_takesOver 53 = .ok (.aload_n 0, 1) := by decide +kernel
theorem dX12_takesOver_54 : decode cX12_takesOver 54 = .ok (.getfield 40, 3) := by decide +kernel
theorem dX12_takesOver_57 : decode cX12_takesOver 57 = .ok (.iload_n 2, 1) := by decide +kernel
theorem dX12_takesOver_58 : decode cX12_takesOver 58 = .ok (.iaload, 1) := by decide +kernel
theorem dX12_takesOver_59 : decode cX12_takesOver 59 = .ok (.sipush 700, 3) := by decide +kernel
theorem dX12_takesOver_62 : decode cX12_takesOver 62 = .ok (.isub, 1) := by decide +kernel
theorem dX12_takesOver_63 : decode cX12_takesOver 63 = .ok (.iastore, 1) := by decide +kernel
theorem dX12_takesOver_64 : decode cX12_takesOver 64 = .ok (.aload_n 0, 1) := by decide +kernel
theorem dX12_takesOver_65 : decode cX12_takesOver 65 = .ok (.getfield 43, 3) := by decide +kernel
theorem dX12_takesOver_68 : decode cX12_takesOver 68 = .ok (.iload_n 1, 1) := by decide +kernel
theorem dX12_takesOver_69 : decode cX12_takesOver 69 = .ok (.aload_n 0, 1) := by decide +kernel
theorem dX12_takesOver_70 : decode cX12_takesOver 70 = .ok (.getfield 43, 3) := by decide +kernel
theorem dX12_takesOver_73 : decode cX12_takesOver 73 = .ok (.iload_n 2, 1) := by decide +kernel
theorem dX12_takesOver_74 : decode cX12_takesOver 74 = .ok (.iaload, 1) := by decide +kernel
theorem dX12_takesOver_75 : decode cX12_takesOver 75 = .ok (.sipush 700, 3) := by decide +kernel
theorem dX12_takesOver_78 : decode cX12_takesOver 78 = .ok (.isub, 1) := by decide +kernel
theorem dX12_takesOver_79 : decode cX12_takesOver 79 = .ok (.iastore, 1) := by decide +kernel
theorem dX12_takesOver_80 : decode cX12_takesOver 80 = .ok (.aload_n 0, 1) := by decide +kernel
theorem dX12_takesOver_81 : decode cX12_takesOver 81 = .ok (.getfield 46, 3) := by decide +kernel
theorem dX12_takesOver_84 : decode cX12_takesOver 84 = .ok (.iload_n 1, 1) := by decide +kernel
theorem dX12_takesOver_85 : decode cX12_takesOver 85 = .ok (.aload_n 0, 1) := by decide +kernel
theorem dX12_takesOver_86 : decode cX12_takesOver 86 = .ok (.getfield 46, 3) := by decide +kernel
theorem dX12_takesOver_89 : decode cX12_takesOver 89 = .ok (.iload_n 2, 1) := by decide +kernel
theorem dX12_takesOver_90 : decode cX12_takesOver 90 = .ok (.iaload, 1) := by decide +kernel
theorem dX12_takesOver_91 : decode cX12_takesOver 91 = .ok (.sipush 700, 3) := by decide +kernel
theorem dX12_takesOver_94 : decode cX12_takesOver 94 = .ok (.isub, 1) := by decide +kernel
theorem dX12_takesOver_95 : decode cX12_takesOver 95 = .ok (.iastore, 1) := by decide +kernel
theorem dX12_takesOver_96 : decode cX12_takesOver 96 = .ok (.aload_n 0, 1) := by decide +kernel
theorem dX12_takesOver_97 : decode cX12_takesOver 97 = .ok (.getfield 49, 3) := by decide +kernel
theorem dX12_takesOver_100 : decode cX12_takesOver 100 = .ok (.iload_n 1, 1) := by decide +kernel
theorem dX12_takesOver_101 : decode cX12_takesOver 101 = .ok (.aload_n 0, 1) := by decide +kernel
theorem dX12_takesOver_102 : decode cX12_takesOver 102 = .ok (.getfield 49, 3) := by decide +kernel
theorem dX12_takesOver_105 : decode cX12_takesOver 105 = .ok (.iload_n 2, 1) := by decide +kernel
theorem dX12_takesOver_106 : decode cX12_takesOver 106 = .ok (.iaload, 1) := by decide +kernel
theorem dX12_takesOver_107 : decode cX12_takesOver 107 = .ok (.sipush 700, 3) := by decide +kernel
theorem dX12_takesOver_110 : decode cX12_takesOver 110 = .ok (.isub, 1) := by decide +kernel
theorem dX12_takesOver_111 : decode cX12_takesOver 111 = .ok (.iastore, 1) := by decide +kernel
theorem dX12_takesOver_112 : decode cX12_takesOver 112 = .ok (.aload_n 0, 1) := by decide +kernel
theorem dX12_takesOver_113 : decode cX12_takesOver 113 = .ok (.getfield 100, 3) := by decide +kernel
theorem dX12_takesOver_116 : decode cX12_takesOver 116 = .ok (.iconst 2, 1) := by decide +kernel
theorem dX12_takesOver_117 : decode cX12_takesOver 117 = .ok (.iload_n 1, 1) := by decide +kernel
theorem dX12_takesOver_118 : decode cX12_takesOver 118 = .ok (.imul, 1) := by decide +kernel
theorem dX12_takesOver_119 : decode cX12_takesOver 119 = .ok (.aload_n 0, 1) := by decide +kernel
theorem dX12_takesOver_120 : decode cX12_takesOver 120 = .ok (.getfield 16, 3) := by decide +kernel
theorem dX12_takesOver_123 : decode cX12_takesOver 123 = .ok (.iload_n 1, 1) := by decide +kernel
theorem dX12_takesOver_124 : decode cX12_takesOver 124 = .ok (.iaload, 1) := by decide +kernel
theorem dX12_takesOver_125 : decode cX12_takesOver 125 = .ok (.iastore, 1) := by decide +kernel
theorem dX12_takesOver_126 : decode cX12_takesOver 126 = .ok (.aload_n 0, 1) := by decide +kernel
theorem dX12_takesOver_127 : decode cX12_takesOver 127 = .ok (.getfield 100, 3) := by decide +kernel
theorem dX12_takesOver_130 : decode cX12_takesOver 130 = .ok (.iconst 2, 1) := by decide +kernel
theorem dX12_takesOver_131 : decode cX12_takesOver 131 = .ok (.iload_n 1, 1) := by decide +kernel
theorem dX12_takesOver_132 : decode cX12_takesOver 132 = .ok (.imul, 1) := by decide +kernel
theorem dX12_takesOver_133 : decode cX12_takesOver 133 = .ok (.iconst 1, 1) := by decide +kernel
theorem dX12_takesOver_134 : decode cX12_takesOver 134 = .ok (.iadd, 1) := by decide +kernel
theorem dX12_takesOver_135 : decode cX12_takesOver 135 = .ok (.aload_n 0, 1) := by decide +kernel
theorem dX12_takesOver_136 : decode cX12_takesOver 136 = .ok (.getfield 19, 3) := by decide +kernel
theorem dX12_takesOver_139 : decode cX12_takesOver 139 = .ok (.iload_n 1, 1) := by decide +kernel
theorem dX12_takesOver_140 : decode cX12_takesOver 140 = .ok (.iaload, 1) := by decide +kernel
theorem dX12_takesOver_141 : decode cX12_takesOver 141 = .ok (.iastore, 1) := by decide +kernel
theorem dX12_takesOver_142 : decode cX12_takesOver 142 = .ok (.return_, 1) := by decide +kernel
theorem dX12_fault_0 : decode cX12_fault 0 = .ok (.aload_n 0, 1) := by decide +kernel
theorem dX12_fault_1 : decode cX12_fault 1 = .ok (.getfield 68, 3) := by decide +kernel
theorem dX12_fault_4 : decode cX12_fault 4 = .ok (.ireturn, 1) := by decide +kernel
theorem dX12_told_0 : decode cX12_told 0 = .ok (.iload_n 1, 1) := by decide +kernel
theorem dX12_told_1 : decode cX12_told 1 = .ok (.tableswitch 51 0 3 #[31, 36, 41, 46], 31) := by decide +kernel
theorem dX12_told_32 : decode cX12_told 32 = .ok (.aload_n 0, 1) := by decide +kernel
theorem dX12_told_33 : decode cX12_told 33 = .ok (.getfield 282, 3) := by decide +kernel
theorem dX12_told_36 : decode cX12_told 36 = .ok (.ireturn, 1) := by decide +kernel
theorem dX12_told_37 : decode cX12_told 37 = .ok (.aload_n 0, 1) := by decide +kernel
theorem dX12_told_38 : decode cX12_told 38 = .ok (.getfield 285, 3) := by decide +kernel
theorem dX12_told_41 : decode cX12_told 41 = .ok (.ireturn, 1) := by decide +kernel
theorem dX12_told_42 : decode cX12_told 42 = .ok (.aload_n 0, 1) := by decide +kernel
theorem dX12_told_43 : decode cX12_told 43 = .ok (.getfield 288, 3) := by decide +kernel
theorem dX12_told_46 : decode cX12_told 46 = .ok (.ireturn, 1) := by decide +kernel
theorem dX12_told_47 : decode cX12_told 47 = .ok (.aload_n 0, 1) := by decide +kernel
theorem dX12_told_48 : decode cX12_told 48 = .ok (.getfield 291, 3) := by decide +kernel
theorem dX12_told_51 : decode cX12_told 51 = .ok (.ireturn, 1) := by decide +kernel
theorem dX12_told_52 : decode cX12_told 52 = .ok (.iload_n 1, 1) := by decide +kernel
theorem dX12_told_53 : decode cX12_told 53 = .ok (.bipush 100, 2) := by decide +kernel
theorem dX12_told_55 : decode cX12_told 55 = .ok (.bipush 99, 2) := by decide +kernel
theorem dX12_told_57 : decode cX12_told 57 = .ok (.iconst 2, 1) := by decide +kernel
theorem dX12_told_58 : decode cX12_told 58 = .ok (.aload_n 0, 1) := by decide +kernel
theorem dX12_told_59 : decode cX12_told 59 = .ok (.getfield 282, 3) := by decide +kernel
theorem dX12_told_62 : decode cX12_told 62 = .ok (.imul, 1) := by decide +kernel
theorem dX12_told_63 : decode cX12_told 63 = .ok (.iadd, 1) := by decide +kernel
theorem dX12_told_64 : decode cX12_told 64 = .ok (.invokestatic 153, 3) := by decide +kernel
theorem dX12_told_67 : decode cX12_told 67 = .ok (.ifCond .ne 5, 3) := by decide +kernel
theorem dX12_told_70 : decode cX12_told 70 = .ok (.iconst (-1), 1) := by decide +kernel
theorem dX12_told_71 : decode cX12_told 71 = .ok (.ireturn, 1) := by decide +kernel
theorem dX12_told_72 : decode cX12_told 72 = .ok (.iload_n 1, 1) := by decide +kernel
theorem dX12_told_73 : decode cX12_told 73 = .ok (.iconst 2, 1) := by decide +kernel
theorem dX12_told_74 : decode cX12_told 74 = .ok (.irem, 1) := by decide +kernel
theorem dX12_told_75 : decode cX12_told 75 = .ok (.ifCond .ne 17, 3) := by decide +kernel
theorem dX12_told_78 : decode cX12_told 78 = .ok (.aload_n 0, 1) := by decide +kernel
theorem dX12_told_79 : decode cX12_told 79 = .ok (.getfield 7, 3) := by decide +kernel
theorem dX12_told_82 : decode cX12_told 82 = .ok (.iload_n 1, 1) := by decide +kernel
theorem dX12_told_83 : decode cX12_told 83 = .ok (.bipush 100, 2) := by decide +kernel
theorem dX12_told_85 : decode cX12_told 85 = .ok (.isub, 1) := by decide +kernel
theorem dX12_told_86 : decode cX12_told 86 = .ok (.iconst 2, 1) := by decide +kernel
theorem dX12_told_87 : decode cX12_told 87 = .ok (.idiv, 1) := by decide +kernel
theorem dX12_told_88 : decode cX12_told 88 = .ok (.iaload, 1) := by decide +kernel
theorem dX12_told_89 : decode cX12_told 89 = .ok (.goto 14, 3) := by decide +kernel
theorem dX12_told_92 : decode cX12_told 92 = .ok (.aload_n 0, 1) := by decide +kernel
theorem dX12_told_93 : decode cX12_told 93 = .ok (.getfield 13, 3) := by decide +kernel
theorem dX12_told_96 : decode cX12_told 96 = .ok (.iload_n 1, 1) := by decide +kernel
theorem dX12_told_97 : decode cX12_told 97 = .ok (.bipush 100, 2) := by decide +kernel
theorem dX12_told_99 : decode cX12_told 99 = .ok (.isub, 1) := by decide +kernel
theorem dX12_told_100 : decode cX12_told 100 = .ok (.iconst 2, 1) := by decide +kernel
theorem dX12_told_101 : decode cX12_told 101 = .ok (.idiv, 1) := by decide +kernel
theorem dX12_told_102 : decode cX12_told 102 = .ok (.iaload, 1) := by decide +kernel
theorem dX12_told_103 : decode cX12_told 103 = .ok (.ireturn, 1) := by decide +kernel
theorem dX12_lays_0 : decode cX12_lays 0 = .ok (.iload_n 1, 1) := by decide +kernel
theorem dX12_lays_1 : decode cX12_lays 1 = .ok (.istore_n 2, 1) := by decide +kernel
theorem dX12_lays_2 : decode cX12_lays 2 = .ok (.iconst 1, 1) := by decide +kernel
theorem dX12_lays_3 : decode cX12_lays 3 = .ok (.istore_n 3, 1) := by decide +kernel
theorem dX12_lays_4 : decode cX12_lays 4 = .ok (.iconst 0, 1) := by decide +kernel
theorem dX12_lays_5 : decode cX12_lays 5 = .ok (.istore 4, 2) := by decide +kernel
theorem dX12_lays_7 : decode cX12_lays 7 = .ok (.iload 4, 2) := by decide +kernel
theorem dX12_lays_9 : decode cX12_lays 9 = .ok (.aload_n 0, 1) := by decide +kernel
theorem dX12_lays_10 : decode cX12_lays 10 = .ok (.getfield 282, 3) := by decide +kernel
theorem dX12_lays_13 : decode cX12_lays 13 = .ok (.if_icmp .ge 75, 3) := by decide +kernel
theorem dX12_lays_16 : decode cX12_lays 16 = .ok (.aload_n 0, 1) := by decide +kernel
theorem dX12_lays_17 : decode cX12_lays 17 = .ok (.getfield 79, 3) := by decide +kernel
theorem dX12_lays_20 : decode cX12_lays 20 = .ok (.iload 4, 2) := by decide +kernel
theorem dX12_lays_22 : decode cX12_lays 22 = .ok (.iload_n 2, 1) := by decide +kernel
theorem dX12_lays_23 : decode cX12_lays 23 = .ok (.bipush 9, 2) := by decide +kernel
theorem dX12_lays_25 : decode cX12_lays 25 = .ok (.irem, 1) := by decide +kernel
theorem dX12_lays_26 : decode cX12_lays 26 = .ok (.iconst 1, 1) := by decide +kernel
theorem dX12_lays_27 : decode cX12_lays 27 = .ok (.isub, 1) := by decide +kernel
theorem dX12_lays_28 : decode cX12_lays 28 = .ok (.iastore, 1) := by decide +kernel
theorem dX12_lays_29 : decode cX12_lays 29 = .ok (.iload_n 2, 1) := by decide +kernel
theorem dX12_lays_30 : decode cX12_lays 30 = .ok (.bipush 9, 2) := by decide +kernel
theorem dX12_lays_32 : decode cX12_lays 32 = .ok (.idiv, 1) := by decide +kernel
theorem dX12_lays_33 : decode cX12_lays 33 = .ok (.istore_n 2, 1) := by decide +kernel
theorem dX12_lays_34 : decode cX12_lays 34 = .ok (.iload_n 3, 1) := by decide +kernel
theorem dX12_lays_35 : decode cX12_lays 35 = .ok (.ifCond .eq 45, 3) := by decide +kernel
theorem dX12_lays_38 : decode cX12_lays 38 = .ok (.aload_n 0, 1) := by decide +kernel
theorem dX12_lays_39 : decode cX12_lays 39 = .ok (.getfield 79, 3) := by decide +kernel
theorem dX12_lays_42 : decode cX12_lays 42 = .ok (.iload 4, 2) := by decide +kernel
theorem dX12_lays_44 : decode cX12_lays 44 = .ok (.iaload, 1) := by decide +kernel
theorem dX12_lays_45 : decode cX12_lays 45 = .ok (.iconst (-1), 1) := by decide +kernel
theorem dX12_lays_46 : decode cX12_lays 46 = .ok (.if_icmp .eq 30, 3) := by decide +kernel
theorem dX12_lays_49 : decode cX12_lays 49 = .ok (.aload_n 0, 1) := by decide +kernel
theorem dX12_lays_50 : decode cX12_lays 50 = .ok (.getfield 79, 3) := by decide +kernel
theorem dX12_lays_53 : decode cX12_lays 53 = .ok (.iload 4, 2) := by decide +kernel
theorem dX12_lays_55 : decode cX12_lays 55 = .ok (.iaload, 1) := by decide +kernel
theorem dX12_lays_56 : decode cX12_lays 56 = .ok (.aload_n 0, 1) := by decide +kernel
theorem dX12_lays_57 : decode cX12_lays 57 = .ok (.getfield 7, 3) := by decide +kernel
theorem dX12_lays_60 : decode cX12_lays 60 = .ok (.iload 4, 2) := by decide +kernel
theorem dX12_lays_62 : decode cX12_lays 62 = .ok (.iaload, 1) := by decide +kernel
theorem dX12_lays_63 : decode cX12_lays 63 = .ok (.aload_n 0, 1) := by decide +kernel
theorem dX12_lays_64 : decode cX12_lays 64 = .ok (.getfield 13, 3) := by decide +kernel
theorem dX12_lays_67 : decode cX12_lays 67 = .ok (.iload 4, 2) := by decide +kernel
theorem dX12_lays_69 : decode cX12_lays 69 = .ok (.iaload, 1) := by decide +kernel
theorem dX12_lays_70 : decode cX12_lays 70 = .ok (.invokestatic 153, 3) := by decide +kernel
theorem dX12_lays_73 : decode cX12_lays 73 = .ok (.ifCond .eq 7, 3) := by decide +kernel
theorem dX12_lays_76 : decode cX12_lays 76 = .ok (.iconst 1, 1) := by decide +kernel
theorem dX12_lays_77 : decode cX12_lays 77 = .ok (.goto 4, 3) := by decide +kernel
theorem dX12_lays_80 : decode cX12_lays 80 = .ok (.iconst 0, 1) := by decide +kernel
theorem dX12_lays_81 : decode cX12_lays 81 = .ok (.istore_n 3, 1) := by decide +kernel
theorem dX12_lays_82 : decode cX12_lays 82 = .ok (.iinc 4 1, 3) := by decide +kernel
theorem dX12_lays_85 : decode cX12_lays 85 = .ok (.goto (-78), 3) := by decide +kernel
theorem dX12_lays_88 : decode cX12_lays 88 = .ok (.iload_n 3, 1) := by decide +kernel
theorem dX12_lays_89 : decode cX12_lays 89 = .ok (.ireturn, 1) := by decide +kernel
theorem dX12_isPossibleNow_0 : decode cX12_isPossibleNow 0 = .ok (.iconst 0, 1) := by decide +kernel
theorem dX12_isPossibleNow_1 : decode cX12_isPossibleNow 1 = .ok (.istore_n 1, 1) := by decide +kernel
theorem dX12_isPossibleNow_2 : decode cX12_isPossibleNow 2 = .ok (.iload_n 1, 1) := by decide +kernel
theorem dX12_isPossibleNow_3 : decode cX12_isPossibleNow 3 = .ok (.aload_n 0, 1) := by decide +kernel
theorem dX12_isPossibleNow_4 : decode cX12_isPossibleNow 4 = .ok (.getfield 294, 3) := by decide +kernel
theorem dX12_isPossibleNow_7 : decode cX12_isPossibleNow 7 = .ok (.if_icmp .ge 99, 3) := by decide +kernel
theorem dX12_isPossibleNow_10 : decode cX12_isPossibleNow 10 = .ok (.aload_n 0, 1) := by decide +kernel
theorem dX12_isPossibleNow_11 : decode cX12_isPossibleNow 11 = .ok (.getfield 79, 3) := by decide +kernel
theorem dX12_isPossibleNow_14 : decode cX12_isPossibleNow 14 = .ok (.aload_n 0, 1) := by decide +kernel
theorem dX12_isPossibleNow_15 : decode cX12_isPossibleNow 15 = .ok (.getfield 31, 3) := by decide +kernel
theorem dX12_isPossibleNow_18 : decode cX12_isPossibleNow 18 = .ok (.iload_n 1, 1) := by decide +kernel
theorem dX12_isPossibleNow_19 : decode cX12_isPossibleNow 19 = .ok (.iaload, 1) := by decide +kernel
theorem dX12_isPossibleNow_20 : decode cX12_isPossibleNow 20 = .ok (.iaload, 1) := by decide +kernel
theorem dX12_isPossibleNow_21 : decode cX12_isPossibleNow 21 = .ok (.istore_n 2, 1) := by decide +kernel
theorem dX12_isPossibleNow_22 : decode cX12_isPossibleNow 22 = .ok (.aload_n 0, 1) := by decide +kernel
theorem dX12_isPossibleNow_23 : decode cX12_isPossibleNow 23 = .ok (.getfield 79, 3) := by decide +kernel
theorem dX12_isPossibleNow_26 : decode cX12_isPossibleNow 26 = .ok (.aload_n 0, 1) := by decide +kernel
theorem dX12_isPossibleNow_27 : decode cX12_isPossibleNow 27 = .ok (.getfield 34, 3) := by decide +kernel
theorem dX12_isPossibleNow_30 : decode cX12_isPossibleNow 30 = .ok (.iload_n 1, 1) := by decide +kernel
theorem dX12_isPossibleNow_31 : decode cX12_isPossibleNow 31 = .ok (.iaload, 1) := by decide +kernel
theorem dX12_isPossibleNow_32 : decode cX12_isPossibleNow 32 = .ok (.iaload, 1) := by decide +kernel
theorem dX12_isPossibleNow_33 : decode cX12_isPossibleNow 33 = .ok (.istore_n 3, 1) := by decide +kernel
theorem dX12_isPossibleNow_34 : decode cX12_isPossibleNow 34 = .ok (.iload_n 2, 1) := by decide +kernel
theorem dX12_isPossibleNow_35 : decode cX12_isPossibleNow 35 = .ok (.iconst (-1), 1) := by decide +kernel
theorem dX12_isPossibleNow_36 : decode cX12_isPossibleNow 36 = .ok (.if_icmp .ne 6, 3) := by decide +kernel
theorem dX12_isPossibleNow_39 : decode cX12_isPossibleNow 39 = .ok (.goto 61, 3) := by decide +kernel
theorem dX12_isPossibleNow_42 : decode cX12_isPossibleNow 42 = .ok (.aload_n 0, 1) := by decide +kernel
theorem dX12_isPossibleNow_43 : decode cX12_isPossibleNow 43 = .ok (.getfield 28, 3) := by decide +kernel
theorem dX12_isPossibleNow_46 : decode cX12_isPossibleNow 46 = .ok (.iload_n 1, 1) := by decide +kernel
theorem dX12_isPossibleNow_47 : decode cX12_isPossibleNow 47 = .ok (.iaload, 1) := by decide +kernel
theorem dX12_isPossibleNow_48 : decode cX12_isPossibleNow 48 = .ok (.ifCond .ne 10, 3) := by decide +kernel
theorem dX12_isPossibleNow_51 : decode cX12_isPossibleNow 51 = .ok (.iload_n 3, 1) := by decide +kernel
theorem dX12_isPossibleNow_52 : decode cX12_isPossibleNow 52 = .ok (.iload_n 2, 1) := by decide +kernel
theorem dX12_isPossibleNow_53 : decode cX12_isPossibleNow 53 = .ok (.if_icmp .le 5, 3) := by decide +kernel
theorem dX12_isPossibleNow_56 : decode cX12_isPossibleNow 56 = .ok (.iconst 0, 1) := by decide +kernel
theorem dX12_isPossibleNow_57 : decode cX12_isPossibleNow 57 = .ok (.ireturn, 1) := by decide +kernel
theorem dX12_isPossibleNow_58 : decode cX12_isPossibleNow 58 = .ok (.aload_n 0, 1) := by decide +kernel
theorem dX12_isPossibleNow_59 : decode cX12_isPossibleNow 59 = .ok (.getfield 28, 3) := by decide +kernel
theorem dX12_isPossibleNow_62 : decode cX12_isPossibleNow 62 = .ok (.iload_n 1, 1) := by decide +kernel
theorem dX12_isPossibleNow_63 : decode cX12_isPossibleNow 63 = .ok (.iaload, 1) := by decide +kernel
theorem dX12_isPossibleNow_64 : decode cX12_isPossibleNow 64 = .ok (.iconst 1, 1) := by decide +kernel
theorem dX12_isPossibleNow_65 : decode cX12_isPossibleNow 65 = .ok (.if_icmp .ne 35, 3) := by decide +kernel
theorem dX12_isPossibleNow_68 : decode cX12_isPossibleNow 68 = .ok (.iload_n 2, 1) := by decide +kernel
theorem dX12_isPossibleNow_69 : decode cX12_isPossibleNow 69 = .ok (.aload_n 0, 1) := by decide +kernel
theorem dX12_isPossibleNow_70 : decode cX12_isPossibleNow 70 = .ok (.getfield 37, 3) := by decide +kernel
theorem dX12_isPossibleNow_73 : decode cX12_isPossibleNow 73 = .ok (.iload_n 1, 1) := by decide +kernel
theorem dX12_isPossibleNow_74 : decode cX12_isPossibleNow 74 = .ok (.iaload, 1) := by decide +kernel
theorem dX12_isPossibleNow_75 : decode cX12_isPossibleNow 75 = .ok (.iadd, 1) := by decide +kernel
theorem dX12_isPossibleNow_76 : decode cX12_isPossibleNow 76 = .ok (.bipush 7, 2) := by decide +kernel
theorem dX12_isPossibleNow_78 : decode cX12_isPossibleNow 78 = .ok (.if_icmp .gt 22, 3) := by decide +kernel
theorem dX12_isPossibleNow_81 : decode cX12_isPossibleNow 81 = .ok (.iload_n 3, 1) := by decide +kernel
theorem dX12_isPossibleNow_82 : decode cX12_isPossibleNow 82 = .ok (.iconst (-1), 1) := by decide +kernel
theorem dX12_isPossibleNow_83 : decode cX12_isPossibleNow 83 = .ok (.if_icmp .eq 15, 3) := by decide +kernel
theorem dX12_isPossibleNow_86 : decode cX12_isPossibleNow 86 = .ok (.iload_n 3, 1) := by decide +kernel
theorem dX12_isPossibleNow_87 : decode cX12_isPossibleNow 87 = .ok (.iload_n 2, 1) := by decide +kernel
theorem dX12_isPossibleNow_88 : decode cX12_isPossibleNow 88 = .ok (.aload_n 0, 1) := by decide +kernel
theorem dX12_isPossibleNow_89 : decode cX12_isPossibleNow 89 = .ok (.getfield 37, 3) := by decide +kernel
theorem dX12_isPossibleNow_92 : decode cX12_isPossibleNow 92 = .ok (.iload_n 1, 1) := by decide +kernel
theorem dX12_isPossibleNow_93 : decode cX12_isPossibleNow 93 = .ok (.iaload, 1) := by decide +kernel
theorem dX12_isPossibleNow_94 : decode cX12_isPossibleNow 94 = .ok (.iadd, 1) := by decide +kernel
theorem dX12_isPossibleNow_95 : decode cX12_isPossibleNow 95 = .ok (.if_icmp .le 5, 3) := by decide +kernel
theorem dX12_isPossibleNow_98 : decode cX12_isPossibleNow 98 = .ok (.iconst 0, 1) := by decide +kernel
theorem dX12_isPossibleNow_99 : decode cX12_isPossibleNow 99 = .ok (.ireturn, 1) := by decide +kernel
theorem dX12_isPossibleNow_100 : decode cX12_isPossibleNow 100 = .ok (.iinc 1 1, 3) := by decide +kernel
theorem dX12_isPossibleNow_103 : decode cX12_isPossibleNow 103 = .ok (.goto (-101), 3) := by decide +kernel
theorem dX12_isPossibleNow_106 : decode cX12_isPossibleNow 106 = .ok (.iconst 1, 1) := by decide +kernel
theorem dX12_isPossibleNow_107 : decode cX12_isPossibleNow 107 = .ok (.ireturn, 1) := by decide +kernel
theorem dX12_comesBy_0 : decode cX12_comesBy 0 = .ok (.aload_n 0, 1) := by decide +kernel
theorem dX12_comesBy_1 : decode cX12_comesBy 1 = .ok (.getfield 79, 3) := by decide +kernel
theorem dX12_comesBy_4 : decode cX12_comesBy 4 = .ok (.iload_n 1, 1) := by decide +kernel
theorem dX12_comesBy_5 : decode cX12_comesBy 5 = .ok (.iaload, 1) := by decide +kernel
theorem dX12_comesBy_6 : decode cX12_comesBy 6 = .ok (.iconst (-1), 1) := by decide +kernel
theorem dX12_comesBy_7 : decode cX12_comesBy 7 = .ok (.if_icmp .eq 17, 3) := by decide +kernel
theorem dX12_comesBy_10 : decode cX12_comesBy 10 = .ok (.aload_n 0, 1) := by decide +kernel
theorem dX12_comesBy_11 : decode cX12_comesBy 11 = .ok (.getfield 79, 3) := by decide +kernel
theorem dX12_comesBy_14 : decode cX12_comesBy 14 = .ok (.iload_n 1, 1) := by decide +kernel
theorem dX12_comesBy_15 : decode cX12_comesBy 15 = .ok (.iaload, 1) := by decide +kernel
theorem dX12_comesBy_16 : decode cX12_comesBy 16 = .ok (.iload_n 2, 1) := by decide +kernel
theorem dX12_comesBy_17 : decode cX12_comesBy 17 = .ok (.if_icmp .gt 7, 3) := by decide +kernel
theorem dX12_comesBy_20 : decode cX12_comesBy 20 = .ok (.iconst 1, 1) := by decide +kernel
theorem dX12_comesBy_21 : decode cX12_comesBy 21 = .ok (.goto 4, 3) := by decide +kernel
theorem dX12_comesBy_24 : decode cX12_comesBy 24 = .ok (.iconst 0, 1) := by decide +kernel
theorem dX12_comesBy_25 : decode cX12_comesBy 25 = .ok (.ireturn, 1) := by decide +kernel
theorem dX12_tells_0 : decode cX12_tells 0 = .ok (.aload_n 0, 1) := by decide +kernel
theorem dX12_tells_1 : decode cX12_tells 1 = .ok (.getfield 52, 3) := by decide +kernel
theorem dX12_tells_4 : decode cX12_tells 4 = .ok (.iload_n 1, 1) := by decide +kernel
theorem dX12_tells_5 : decode cX12_tells 5 = .ok (.iaload, 1) := by decide +kernel
theorem dX12_tells_6 : decode cX12_tells 6 = .ok (.tableswitch 125 0 2 #[26, 47, 64], 26) := by decide +kernel
theorem dX12_tells_32 : decode cX12_tells 32 = .ok (.aload_n 0, 1) := by decide +kernel
theorem dX12_tells_33 : decode cX12_tells 33 = .ok (.getfield 79, 3) := by decide +kernel
theorem dX12_tells_36 : decode cX12_tells 36 = .ok (.aload_n 0, 1) := by decide +kernel
theorem dX12_tells_37 : decode cX12_tells 37 = .ok (.getfield 55, 3) := by decide +kernel
theorem dX12_tells_40 : decode cX12_tells 40 = .ok (.iload_n 1, 1) := by decide +kernel
theorem dX12_tells_41 : decode cX12_tells 41 = .ok (.iaload, 1) := by decide +kernel
theorem dX12_tells_42 : decode cX12_tells 42 = .ok (.iaload, 1) := by decide +kernel
theorem dX12_tells_43 : decode cX12_tells 43 = .ok (.iconst (-1), 1) := by decide +kernel
theorem dX12_tells_44 : decode cX12_tells 44 = .ok (.if_icmp .eq 7, 3) := by decide +kernel
theorem dX12_tells_47 : decode cX12_tells 47 = .ok (.iconst 1, 1) := by decide +kernel
theorem dX12_tells_48 : decode cX12_tells 48 = .ok (.goto 4, 3) := by decide +kernel
theorem dX12_tells_51 : decode cX12_tells 51 = .ok (.iconst 0, 1) := by decide +kernel
theorem dX12_tells_52 : decode cX12_tells 52 = .ok (.ireturn, 1) := by decide +kernel
theorem dX12_tells_53 : decode cX12_tells 53 = .ok (.aload_n 0, 1) := by decide +kernel
theorem dX12_tells_54 : decode cX12_tells 54 = .ok (.aload_n 0, 1) := by decide +kernel
theorem dX12_tells_55 : decode cX12_tells 55 = .ok (.getfield 55, 3) := by decide +kernel
theorem dX12_tells_58 : decode cX12_tells 58 = .ok (.iload_n 1, 1) := by decide +kernel
theorem dX12_tells_59 : decode cX12_tells 59 = .ok (.iaload, 1) := by decide +kernel
theorem dX12_tells_60 : decode cX12_tells 60 = .ok (.aload_n 0, 1) := by decide +kernel
theorem dX12_tells_61 : decode cX12_tells 61 = .ok (.getfield 58, 3) := by decide +kernel
theorem dX12_tells_64 : decode cX12_tells 64 = .ok (.iload_n 1, 1) := by decide +kernel
theorem dX12_tells_65 : decode cX12_tells 65 = .ok (.iaload, 1) := by decide +kernel
theorem dX12_tells_66 : decode cX12_tells 66 = .ok (.invokevirtual 316, 3) := by decide +kernel
theorem dX12_tells_69 : decode cX12_tells 69 = .ok (.ireturn, 1) := by decide +kernel
theorem dX12_tells_70 : decode cX12_tells 70 = .ok (.aload_n 0, 1) := by decide +kernel
theorem dX12_tells_71 : decode cX12_tells 71 = .ok (.getfield 79, 3) := by decide +kernel
theorem dX12_tells_74 : decode cX12_tells 74 = .ok (.aload_n 0, 1) := by decide +kernel
theorem dX12_tells_75 : decode cX12_tells 75 = .ok (.getfield 55, 3) := by decide +kernel
theorem dX12_tells_78 : decode cX12_tells 78 = .ok (.iload_n 1, 1) := by decide +kernel
theorem dX12_tells_79 : decode cX12_tells 79 = .ok (.iaload, 1) := by decide +kernel
theorem dX12_tells_80 : decode cX12_tells 80 = .ok (.iaload, 1) := by decide +kernel
theorem dX12_tells_81 : decode cX12_tells 81 = .ok (.iconst (-1), 1) := by decide +kernel
theorem dX12_tells_82 : decode cX12_tells 82 = .ok (.if_icmp .eq 47, 3) := by decide +kernel
theorem dX12_tells_85 : decode cX12_tells 85 = .ok (.aload_n 0, 1) := by decide +kernel
theorem dX12_tells_86 : decode cX12_tells 86 = .ok (.getfield 79, 3) := by decide +kernel
theorem dX12_tells_89 : decode cX12_tells 89 = .ok (.aload_n 0, 1) := by decide +kernel
theorem dX12_tells_90 : decode cX12_tells 90 = .ok (.getfield 58, 3) := by decide +kernel
theorem dX12_tells_93 : decode cX12_tells 93 = .ok (.iload_n 1, 1) := by decide +kernel
theorem dX12_tells_94 : decode cX12_tells 94 = .ok (.iaload, 1) := by decide +kernel
theorem dX12_tells_95 : decode cX12_tells 95 = .ok (.iaload, 1) := by decide +kernel
theorem dX12_tells_96 : decode cX12_tells 96 = .ok (.iconst (-1), 1) := by decide +kernel
theorem dX12_tells_97 : decode cX12_tells 97 = .ok (.if_icmp .eq 28, 3) := by decide +kernel
theorem dX12_tells_100 : decode cX12_tells 100 = .ok (.aload_n 0, 1) := by decide +kernel
theorem dX12_tells_101 : decode cX12_tells 101 = .ok (.getfield 79, 3) := by decide +kernel
theorem dX12_tells_104 : decode cX12_tells 104 = .ok (.aload_n 0, 1) := by decide +kernel
theorem dX12_tells_105 : decode cX12_tells 105 = .ok (.getfield 58, 3) := by decide +kernel
theorem dX12_tells_108 : decode cX12_tells 108 = .ok (.iload_n 1, 1) := by decide +kernel
theorem dX12_tells_109 : decode cX12_tells 109 = .ok (.iaload, 1) := by decide +kernel
theorem dX12_tells_110 : decode cX12_tells 110 = .ok (.iaload, 1) := by decide +kernel
theorem dX12_tells_111 : decode cX12_tells 111 = .ok (.aload_n 0, 1) := by decide +kernel
theorem dX12_tells_112 : decode cX12_tells 112 = .ok (.getfield 79, 3) := by decide +kernel
theorem dX12_tells_115 : decode cX12_tells 115 = .ok (.aload_n 0, 1) := by decide +kernel
theorem dX12_tells_116 : decode cX12_tells 116 = .ok (.getfield 55, 3) := by decide +kernel
theorem dX12_tells_119 : decode cX12_tells 119 = .ok (.iload_n 1, 1) := by decide +kernel
theorem dX12_tells_120 : decode cX12_tells 120 = .ok (.iaload, 1) := by decide +kernel
theorem dX12_tells_121 : decode cX12_tells 121 = .ok (.iaload, 1) := by decide +kernel
theorem dX12_tells_122 : decode cX12_tells 122 = .ok (.if_icmp .le 7, 3) := by decide +kernel
theorem dX12_tells_125 : decode cX12_tells 125 = .ok (.iconst 1, 1) := by decide +kernel
theorem dX12_tells_126 : decode cX12_tells 126 = .ok (.goto 4, 3) := by decide +kernel
theorem dX12_tells_129 : decode cX12_tells 129 = .ok (.iconst 0, 1) := by decide +kernel
theorem dX12_tells_130 : decode cX12_tells 130 = .ok (.ireturn, 1) := by decide +kernel
theorem dX12_tells_131 : decode cX12_tells 131 = .ok (.iconst 0, 1) := by decide +kernel
theorem dX12_tells_132 : decode cX12_tells 132 = .ok (.istore_n 2, 1) := by decide +kernel
theorem dX12_tells_133 : decode cX12_tells 133 = .ok (.iconst 0, 1) := by decide +kernel
theorem dX12_tells_134 : decode cX12_tells 134 = .ok (.istore_n 3, 1) := by decide +kernel
theorem dX12_tells_135 : decode cX12_tells 135 = .ok (.iload_n 3, 1) := by decide +kernel
theorem dX12_tells_136 : decode cX12_tells 136 = .ok (.aload_n 0, 1) := by decide +kernel
theorem dX12_tells_137 : decode cX12_tells 137 = .ok (.getfield 282, 3) := by decide +kernel
theorem dX12_tells_140 : decode cX12_tells 140 = .ok (.if_icmp .ge 26, 3) := by decide +kernel
theorem dX12_tells_143 : decode cX12_tells 143 = .ok (.iload_n 2, 1) := by decide +kernel
theorem dX12_tells_144 : decode cX12_tells 144 = .ok (.aload_n 0, 1) := by decide +kernel
theorem dX12_tells_145 : decode cX12_tells 145 = .ok (.iload_n 3, 1) := by decide +kernel
theorem dX12_tells_146 : decode cX12_tells 146 = .ok (.aload_n 0, 1) := by decide +kernel
theorem dX12_tells_147 : decode cX12_tells 147 = .ok (.getfield 58, 3) := by decide +kernel
theorem dX12_tells_150 : decode cX12_tells 150 = .ok (.iload_n 1, 1) := by decide +kernel
theorem dX12_tells_151 : decode cX12_tells 151 = .ok (.iaload, 1) := by decide +kernel
theorem dX12_tells_152 : decode cX12_tells 152 = .ok (.invokevirtual 316, 3) := by decide +kernel
theorem dX12_tells_155 : decode cX12_tells 155 = .ok (.invokestatic 319, 3) := by decide +kernel
theorem dX12_tells_158 : decode cX12_tells 158 = .ok (.iadd, 1) := by decide +kernel
theorem dX12_tells_159 : decode cX12_tells 159 = .ok (.istore_n 2, 1) := by decide +kernel
theorem dX12_tells_160 : decode cX12_tells 160 = .ok (.iinc 3 1, 3) := by decide +kernel
theorem dX12_tells_163 : decode cX12_tells 163 = .ok (.goto (-28), 3) := by decide +kernel
theorem dX12_tells_166 : decode cX12_tells 166 = .ok (.iload_n 2, 1) := by decide +kernel
theorem dX12_tells_167 : decode cX12_tells 167 = .ok (.aload_n 0, 1) := by decide +kernel
theorem dX12_tells_168 : decode cX12_tells 168 = .ok (.getfield 55, 3) := by decide +kernel
theorem dX12_tells_171 : decode cX12_tells 171 = .ok (.iload_n 1, 1) := by decide +kernel
theorem dX12_tells_172 : decode cX12_tells 172 = .ok (.iaload, 1) := by decide +kernel
theorem dX12_tells_173 : decode cX12_tells 173 = .ok (.if_icmp .lt 7, 3) := by decide +kernel
theorem dX12_tells_176 : decode cX12_tells 176 = .ok (.iconst 1, 1) := by decide +kernel
theorem dX12_tells_177 : decode cX12_tells 177 = .ok (.goto 4, 3) := by decide +kernel
theorem dX12_tells_180 : decode cX12_tells 180 = .ok (.iconst 0, 1) := by decide +kernel
theorem dX12_tells_181 : decode cX12_tells 181 = .ok (.ireturn, 1) := by decide +kernel
theorem dX12_isTrue_0 : decode cX12_isTrue 0 = .ok (.iconst 0, 1) := by decide +kernel
theorem dX12_isTrue_1 : decode cX12_isTrue 1 = .ok (.istore_n 3, 1) := by decide +kernel
theorem dX12_isTrue_2 : decode cX12_isTrue 2 = .ok (.iload_n 1, 1) := by decide +kernel
theorem dX12_isTrue_3 : decode cX12_isTrue 3 = .ok (.istore 4, 2) := by decide +kernel
theorem dX12_isTrue_5 : decode cX12_isTrue 5 = .ok (.iload 4, 2) := by decide +kernel
theorem dX12_isTrue_7 : decode cX12_isTrue 7 = .ok (.iload_n 2, 1) := by decide +kernel
theorem dX12_isTrue_8 : decode cX12_isTrue 8 = .ok (.if_icmp .ge 152, 3) := by decide +kernel
theorem dX12_isTrue_11 : decode cX12_isTrue 11 = .ok (.aload_n 0, 1) := by decide +kernel
theorem dX12_isTrue_12 : decode cX12_isTrue 12 = .ok (.getfield 52, 3) := by decide +kernel
theorem dX12_isTrue_15 : decode cX12_isTrue 15 = .ok (.iload 4, 2) := by decide +kernel
theorem dX12_isTrue_17 : decode cX12_isTrue 17 = .ok (.iaload, 1) := by decide +kernel
theorem dX12_isTrue_18 : decode cX12_isTrue 18 = .ok (.iconst 3, 1) := by decide +kernel
theorem dX12_isTrue_19 : decode cX12_isTrue 19 = .ok (.if_icmp .gt 21, 3) := by decide +kernel
theorem dX12_isTrue_22 : decode cX12_isTrue 22 = .ok (.aload_n 0, 1) := by decide +kernel
theorem dX12_isTrue_23 : decode cX12_isTrue 23 = .ok (.getfield 90, 3) := by decide +kernel
theorem dX12_isTrue_26 : decode cX12_isTrue 26 = .ok (.iload_n 3, 1) := by decide +kernel
theorem dX12_isTrue_27 : decode cX12_isTrue 27 = .ok (.aload_n 0, 1) := by decide +kernel
theorem dX12_isTrue_28 : decode cX12_isTrue 28 = .ok (.iload 4, 2) := by decide +kernel
theorem dX12_isTrue_30 : decode cX12_isTrue 30 = .ok (.invokevirtual 323, 3) := by decide +kernel
theorem dX12_isTrue_33 : decode cX12_isTrue 33 = .ok (.bastore, 1) := by decide +kernel
theorem dX12_isTrue_34 : decode cX12_isTrue 34 = .ok (.iinc 3 1, 3) := by decide +kernel
theorem dX12_isTrue_37 : decode cX12_isTrue 37 = .ok (.goto 117, 3) := by decide +kernel
theorem dX12_isTrue_40 : decode cX12_isTrue 40 = .ok (.aload_n 0, 1) := by decide +kernel
theorem dX12_isTrue_41 : decode cX12_isTrue 41 = .ok (.getfield 52, 3) := by decide +kernel
theorem dX12_isTrue_44 : decode cX12_isTrue 44 = .ok (.iload 4, 2) := by decide +kernel
theorem dX12_isTrue_46 : decode cX12_isTrue 46 = .ok (.iaload, 1) := by decide +kernel
theorem dX12_isTrue_47 : decode cX12_isTrue 47 = .ok (.bipush 6, 2) := by decide +kernel
theorem dX12_isTrue_49 : decode cX12_isTrue 49 = .ok (.if_icmp .ne 30, 3) := by decide +kernel
theorem dX12_isTrue_52 : decode cX12_isTrue 52 = .ok (.aload_n 0, 1) := by decide +kernel
theorem dX12_isTrue_53 : decode cX12_isTrue 53 = .ok (.getfield 90, 3) := by decide +kernel
theorem dX12_isTrue_56 : decode cX12_isTrue 56 = .ok (.iload_n 3, 1) := by decide +kernel
theorem dX12_isTrue_57 : decode cX12_isTrue 57 = .ok (.iconst 1, 1) := by decide +kernel
theorem dX12_isTrue_58 : decode cX12_isTrue 58 = .ok (.isub, 1) := by decide +kernel
theorem dX12_isTrue_59 : decode cX12_isTrue 59 = .ok (.aload_n 0, 1) := by decide +kernel
theorem dX12_isTrue_60 : decode cX12_isTrue 60 = .ok (.getfield 90, 3) := by decide +kernel
theorem dX12_isTrue_63 : decode cX12_isTrue 63 = .ok (.iload_n 3, 1) := by decide +kernel
theorem dX12_isTrue_64 : decode cX12_isTrue 64 = .ok (.iconst 1, 1) := by decide +kernel
theorem dX12_isTrue_65 : decode cX12_isTrue 65 = .ok (.isub, 1) := by decide +kernel
theorem dX12_isTrue_66 : decode cX12_isTrue 66 = .ok (.baload, 1) := by decide +kernel
theorem dX12_isTrue_67 : decode cX12_isTrue 67 = .ok (.ifCond .ne 7, 3) := by decide +kernel
theorem dX12_isTrue_70 : decode cX12_isTrue 70 = .ok (.iconst 1, 1) := by decide +kernel
theorem dX12_isTrue_71 : decode cX12_isTrue 71 = .ok (.goto 4, 3) := by decide +kernel
theorem dX12_isTrue_74 : decode cX12_isTrue 74 = .ok (.iconst 0, 1) := by decide +kernel
theorem dX12_isTrue_75 : decode cX12_isTrue 75 = .ok (.bastore, 1) := by decide +kernel
theorem dX12_isTrue_76 : decode cX12_isTrue 76 = .ok (.goto 78, 3) := by decide +kernel
theorem dX12_isTrue_79 : decode cX12_isTrue 79 = .ok (.iinc 3 (-1), 3) := by decide +kernel
theorem dX12_isTrue_82 : decode cX12_isTrue 82 = .ok (.aload_n 0, 1) := by decide +kernel
theorem dX12_isTrue_83 : decode cX12_isTrue 83 = .ok (.getfield 90, 3) := by decide +kernel
theorem dX12_isTrue_86 : decode cX12_isTrue 86 = .ok (.iload_n 3, 1) := by decide +kernel
theorem dX12_isTrue_87 : decode cX12_isTrue 87 = .ok (.iconst 1, 1) := by decide +kernel
theorem dX12_isTrue_88 : decode cX12_isTrue 88 = .ok (.isub, 1) := by decide +kernel
theorem dX12_isTrue_89 : decode cX12_isTrue 89 = .ok (.aload_n 0, 1) := by decide +kernel
theorem dX12_isTrue_90 : decode cX12_isTrue 90 = .ok (.getfield 52, 3) := by decide +kernel
theorem dX12_isTrue_93 : decode cX12_isTrue 93 = .ok (.iload 4, 2) := by decide +kernel
theorem dX12_isTrue_95 : decode cX12_isTrue 95 = .ok (.iaload, 1) := by decide +kernel
theorem dX12_isTrue_96 : decode cX12_isTrue 96 = .ok (.iconst 4, 1) := by decide +kernel
theorem dX12_isTrue_97 : decode cX12_isTrue 97 = .ok (.if_icmp .ne 31, 3) := by decide +kernel
theorem dX12_isTrue_100 : decode cX12_isTrue 100 = .ok (.aload_n 0, 1) := by decide +kernel
theorem dX12_isTrue_101 : decode cX12_isTrue 101 = .ok (.getfield 90, 3) := by decide +kernel
theorem dX12_isTrue_104 : decode cX12_isTrue 104 = .ok (.iload_n 3, 1) := by decide +kernel
theorem dX12_isTrue_105 : decode cX12_isTrue 105 = .ok (.iconst 1, 1) := by decide +kernel
theorem dX12_isTrue_106 : decode cX12_isTrue 106 = .ok (.isub, 1) := by decide +kernel
theorem dX12_isTrue_107 : decode cX12_isTrue 107 = .ok (.baload, 1) := by decide +kernel
theorem dX12_isTrue_108 : decode cX12_isTrue 108 = .ok (.ifCond .ne 12, 3) := by decide +kernel
theorem dX12_isTrue_111 : decode cX12_isTrue 111 = .ok (.aload_n 0, 1) := by decide +kernel
theorem dX12_isTrue_112 : decode cX12_isTrue 112 = .ok (.getfield 90, 3) := by decide +kernel
theorem dX12_isTrue_115 : decode cX12_isTrue 115 = .ok (.iload_n 3, 1) := by decide +kernel
theorem dX12_isTrue_116 : decode cX12_isTrue 116 = .ok (.baload, 1) := by decide +kernel
theorem dX12_isTrue_117 : decode cX12_isTrue 117 = .ok (.ifCond .eq 7, 3) := by decide +kernel
theorem dX12_isTrue_120 : decode cX12_isTrue 120 = .ok (.iconst 1, 1) := by decide +kernel
theorem dX12_isTrue_121 : decode cX12_isTrue 121 = .ok (.goto 32, 3) := by decide +kernel
theorem dX12_isTrue_124 : decode cX12_isTrue 124 = .ok (.iconst 0, 1) := by decide +kernel
theorem dX12_isTrue_125 : decode cX12_isTrue 125 = .ok (.goto 28, 3) := by decide +kernel
theorem dX12_isTrue_128 : decode cX12_isTrue 128 = .ok (.aload_n 0, 1) := by decide +kernel
theorem dX12_isTrue_129 : decode cX12_isTrue 129 = .ok (.getfield 90, 3) := by decide +kernel
theorem dX12_isTrue_132 : decode cX12_isTrue 132 = .ok (.iload_n 3, 1) := by decide +kernel
theorem dX12_isTrue_133 : decode cX12_isTrue 133 = .ok (.iconst 1, 1) := by decide +kernel
theorem dX12_isTrue_134 : decode cX12_isTrue 134 = .ok (.isub, 1) := by decide +kernel
theorem dX12_isTrue_135 : decode cX12_isTrue 135 = .ok (.baload, 1) := by decide +kernel
theorem dX12_isTrue_136 : decode cX12_isTrue 136 = .ok (.ifCond .eq 16, 3) := by decide +kernel
theorem dX12_isTrue_139 : decode cX12_isTrue 139 = .ok (.aload_n 0, 1) := by decide +kernel
theorem dX12_isTrue_140 : decode cX12_isTrue 140 = .ok (.getfield 90, 3) := by decide +kernel
theorem dX12_isTrue_143 : decode cX12_isTrue 143 = .ok (.iload_n 3, 1) := by decide +kernel
theorem dX12_isTrue_144 : decode cX12_isTrue 144 = .ok (.baload, 1) := by decide +kernel
theorem dX12_isTrue_145 : decode cX12_isTrue 145 = .ok (.ifCond .eq 7, 3) := by decide +kernel
theorem dX12_isTrue_148 : decode cX12_isTrue 148 = .ok (.iconst 1, 1) := by decide +kernel
theorem dX12_isTrue_149 : decode cX12_isTrue 149 = .ok (.goto 4, 3) := by decide +kernel
theorem dX12_isTrue_152 : decode cX12_isTrue 152 = .ok (.iconst 0, 1) := by decide +kernel
theorem dX12_isTrue_153 : decode cX12_isTrue 153 = .ok (.bastore, 1) := by decide +kernel
theorem dX12_isTrue_154 : decode cX12_isTrue 154 = .ok (.iinc 4 1, 3) := by decide +kernel
theorem dX12_isTrue_157 : decode cX12_isTrue 157 = .ok (.goto (-152), 3) := by decide +kernel
theorem dX12_isTrue_160 : decode cX12_isTrue 160 = .ok (.aload_n 0, 1) := by decide +kernel
theorem dX12_isTrue_161 : decode cX12_isTrue 161 = .ok (.getfield 90, 3) := by decide +kernel
theorem dX12_isTrue_164 : decode cX12_isTrue 164 = .ok (.iconst 0, 1) := by decide +kernel
theorem dX12_isTrue_165 : decode cX12_isTrue 165 = .ok (.baload, 1) := by decide +kernel
theorem dX12_isTrue_166 : decode cX12_isTrue 166 = .ok (.ireturn, 1) := by decide +kernel
theorem dX12_doesNow_0 : decode cX12_doesNow 0 = .ok (.aload_n 0, 1) := by decide +kernel
theorem dX12_doesNow_1 : decode cX12_doesNow 1 = .ok (.getfield 43, 3) := by decide +kernel
theorem dX12_doesNow_4 : decode cX12_doesNow 4 = .ok (.iload_n 1, 1) := by decide +kernel
theorem dX12_doesNow_5 : decode cX12_doesNow 5 = .ok (.iaload, 1) := by decide +kernel
theorem dX12_doesNow_6 : decode cX12_doesNow 6 = .ok (.aload_n 0, 1) := by decide +kernel
theorem dX12_doesNow_7 : decode cX12_doesNow 7 = .ok (.getfield 46, 3) := by decide +kernel
theorem dX12_doesNow_10 : decode cX12_doesNow 10 = .ok (.iload_n 1, 1) := by decide +kernel
theorem dX12_doesNow_11 : decode cX12_doesNow 11 = .ok (.iaload, 1) := by decide +kernel
theorem dX12_doesNow_12 : decode cX12_doesNow 12 = .ok (.if_icmp .ge 24, 3) := by decide +kernel
theorem dX12_doesNow_15 : decode cX12_doesNow 15 = .ok (.aload_n 0, 1) := by decide +kernel
theorem dX12_doesNow_16 : decode cX12_doesNow 16 = .ok (.aload_n 0, 1) := by decide +kernel
theorem dX12_doesNow_17 : decode cX12_doesNow 17 = .ok (.getfield 43, 3) := by decide +kernel
theorem dX12_doesNow_20 : decode cX12_doesNow 20 = .ok (.iload_n 1, 1) := by decide +kernel
theorem dX12_doesNow_21 : decode cX12_doesNow 21 = .ok (.iaload, 1) := by decide +kernel
theorem dX12_doesNow_22 : decode cX12_doesNow 22 = .ok (.aload_n 0, 1) := by decide +kernel
theorem dX12_doesNow_23 : decode cX12_doesNow 23 = .ok (.getfield 46, 3) := by decide +kernel
theorem dX12_doesNow_26 : decode cX12_doesNow 26 = .ok (.iload_n 1, 1) := by decide +kernel
theorem dX12_doesNow_27 : decode cX12_doesNow 27 = .ok (.iaload, 1) := by decide +kernel
theorem dX12_doesNow_28 : decode cX12_doesNow 28 = .ok (.invokevirtual 326, 3) := by decide +kernel
theorem dX12_doesNow_31 : decode cX12_doesNow 31 = .ok (.ifCond .eq 5, 3) := by decide +kernel
theorem dX12_doesNow_34 : decode cX12_doesNow 34 = .ok (.iconst 0, 1) := by decide +kernel
theorem dX12_doesNow_35 : decode cX12_doesNow 35 = .ok (.ireturn, 1) := by decide +kernel
theorem dX12_doesNow_36 : decode cX12_doesNow 36 = .ok (.aload_n 0, 1) := by decide +kernel
theorem dX12_doesNow_37 : decode cX12_doesNow 37 = .ok (.aload_n 0, 1) := by decide +kernel
theorem dX12_doesNow_38 : decode cX12_doesNow 38 = .ok (.getfield 40, 3) := by decide +kernel
theorem dX12_doesNow_41 : decode cX12_doesNow 41 = .ok (.iload_n 1, 1) := by decide +kernel
theorem dX12_doesNow_42 : decode cX12_doesNow 42 = .ok (.iaload, 1) := by decide +kernel
theorem dX12_doesNow_43 : decode cX12_doesNow 43 = .ok (.aload_n 0, 1) := by decide +kernel
theorem dX12_doesNow_44 : decode cX12_doesNow 44 = .ok (.getfield 43, 3) := by decide +kernel
theorem dX12_doesNow_47 : decode cX12_doesNow 47 = .ok (.iload_n 1, 1) := by decide +kernel
theorem dX12_doesNow_48 : decode cX12_doesNow 48 = .ok (.iaload, 1) := by decide +kernel
theorem dX12_doesNow_49 : decode cX12_doesNow 49 = .ok (.invokevirtual 326, 3) := by decide +kernel
theorem dX12_doesNow_52 : decode cX12_doesNow 52 = .ok (.ifCond .eq 7, 3) := by decide +kernel
theorem dX12_doesNow_55 : decode cX12_doesNow 55 = .ok (.iconst 1, 1) := by decide +kernel
theorem dX12_doesNow_56 : decode cX12_doesNow 56 = .ok (.goto 4, 3) := by decide +kernel
theorem dX12_doesNow_59 : decode cX12_doesNow 59 = .ok (.iconst 2, 1) := by decide +kernel
theorem dX12_doesNow_60 : decode cX12_doesNow 60 = .ok (.istore_n 2, 1) := by decide +kernel
theorem dX12_doesNow_61 : decode cX12_doesNow 61 = .ok (.aload_n 0, 1) := by decide +kernel
theorem dX12_doesNow_62 : decode cX12_doesNow 62 = .ok (.getfield 46, 3) := by decide +kernel
theorem dX12_doesNow_65 : decode cX12_doesNow 65 = .ok (.iload_n 1, 1) := by decide +kernel
theorem dX12_doesNow_66 : decode cX12_doesNow 66 = .ok (.iaload, 1) := by decide +kernel
theorem dX12_doesNow_67 : decode cX12_doesNow 67 = .ok (.aload_n 0, 1) := by decide +kernel
theorem dX12_doesNow_68 : decode cX12_doesNow 68 = .ok (.getfield 49, 3) := by decide +kernel
theorem dX12_doesNow_71 : decode cX12_doesNow 71 = .ok (.iload_n 1, 1) := by decide +kernel
theorem dX12_doesNow_72 : decode cX12_doesNow 72 = .ok (.iaload, 1) := by decide +kernel
theorem dX12_doesNow_73 : decode cX12_doesNow 73 = .ok (.if_icmp .ge 28, 3) := by decide +kernel
theorem dX12_doesNow_76 : decode cX12_doesNow 76 = .ok (.aload_n 0, 1) := by decide +kernel
theorem dX12_doesNow_77 : decode cX12_doesNow 77 = .ok (.aload_n 0, 1) := by decide +kernel
theorem dX12_doesNow_78 : decode cX12_doesNow 78 = .ok (.getfield 46, 3) := by decide +kernel
theorem dX12_doesNow_81 : decode cX12_doesNow 81 = .ok (.iload_n 1, 1) := by decide +kernel
theorem dX12_doesNow_82 : decode cX12_doesNow 82 = .ok (.iaload, 1) := by decide +kernel
theorem dX12_doesNow_83 : decode cX12_doesNow 83 = .ok (.aload_n 0, 1) := by decide +kernel
theorem dX12_doesNow_84 : decode cX12_doesNow 84 = .ok (.getfield 49, 3) := by decide +kernel
theorem dX12_doesNow_87 : decode cX12_doesNow 87 = .ok (.iload_n 1, 1) := by decide +kernel
theorem dX12_doesNow_88 : decode cX12_doesNow 88 = .ok (.iaload, 1) := by decide +kernel
theorem dX12_doesNow_89 : decode cX12_doesNow 89 = .ok (.invokevirtual 326, 3) := by decide +kernel
theorem dX12_doesNow_92 : decode cX12_doesNow 92 = .ok (.ifCond .eq 9, 3) := by decide +kernel
theorem dX12_doesNow_95 : decode cX12_doesNow 95 = .ok (.iload_n 2, 1) := by decide +kernel
theorem dX12_doesNow_96 : decode cX12_doesNow 96 = .ok (.iconst 2, 1) := by decide +kernel
theorem dX12_doesNow_97 : decode cX12_doesNow 97 = .ok (.iadd, 1) := by decide +kernel
theorem dX12_doesNow_98 : decode cX12_doesNow 98 = .ok (.goto 4, 3) := by decide +kernel
theorem dX12_doesNow_101 : decode cX12_doesNow 101 = .ok (.iload_n 2, 1) := by decide +kernel
theorem dX12_doesNow_102 : decode cX12_doesNow 102 = .ok (.ireturn, 1) := by decide +kernel
theorem dX12_makes_0 : decode cX12_makes 0 = .ok (.aload_n 0, 1) := by decide +kernel
theorem dX12_makes_1 : decode cX12_makes 1 = .ok (.iconst 1, 1) := by decide +kernel
theorem dX12_makes_2 : decode cX12_makes 2 = .ok (.putfield 329, 3) := by decide +kernel
theorem dX12_makes_5 : decode cX12_makes 5 = .ok (.iconst 0, 1) := by decide +kernel
theorem dX12_makes_6 : decode cX12_makes 6 = .ok (.istore_n 1, 1) := by decide +kernel
theorem dX12_makes_7 : decode cX12_makes 7 = .ok (.iload_n 1, 1) := by decide +kernel
theorem dX12_makes_8 : decode cX12_makes 8 = .ok (.aload_n 0, 1) := by decide +kernel
theorem dX12_makes_9 : decode cX12_makes 9 = .ok (.getfield 282, 3) := by decide +kernel
theorem dX12_makes_12 : decode cX12_makes 12 = .ok (.if_icmp .ge 20, 3) := by decide +kernel
theorem dX12_makes_15 : decode cX12_makes 15 = .ok (.aload_n 0, 1) := by decide +kernel
theorem dX12_makes_16 : decode cX12_makes 16 = .ok (.dup, 1) := by decide +kernel
theorem dX12_makes_17 : decode cX12_makes 17 = .ok (.getfield 329, 3) := by decide +kernel
theorem dX12_makes_20 : decode cX12_makes 20 = .ok (.bipush 9, 2) := by decide +kernel
theorem dX12_makes_22 : decode cX12_makes 22 = .ok (.imul, 1) := by decide +kernel
theorem dX12_makes_23 : decode cX12_makes 23 = .ok (.putfield 329, 3) := by decide +kernel
theorem dX12_makes_26 : decode cX12_makes 26 = .ok (.iinc 1 1, 3) := by decide +kernel
theorem dX12_makes_29 : decode cX12_makes 29 = .ok (.goto (-22), 3) := by decide +kernel
theorem dX12_makes_32 : decode cX12_makes 32 = .ok (.iconst 0, 1) := by decide +kernel
theorem dX12_makes_33 : decode cX12_makes 33 = .ok (.istore_n 1, 1) := by decide +kernel
theorem dX12_makes_34 : decode cX12_makes 34 = .ok (.iload_n 1, 1) := by decide +kernel
theorem dX12_makes_35 : decode cX12_makes 35 = .ok (.aload_n 0, 1) := by decide +kernel
theorem dX12_makes_36 : decode cX12_makes 36 = .ok (.getfield 329, 3) := by decide +kernel
theorem dX12_makes_39 : decode cX12_makes 39 = .ok (.if_icmp .ge 79, 3) := by decide +kernel
theorem dX12_makes_42 : decode cX12_makes 42 = .ok (.aload_n 0, 1) := by decide +kernel
theorem dX12_makes_43 : decode cX12_makes 43 = .ok (.iload_n 1, 1) := by decide +kernel
theorem dX12_makes_44 : decode cX12_makes 44 = .ok (.invokevirtual 332, 3) := by decide +kernel
theorem dX12_makes_47 : decode cX12_makes 47 = .ok (.istore_n 2, 1) := by decide +kernel
theorem dX12_makes_48 : decode cX12_makes 48 = .ok (.aload_n 0, 1) := by decide +kernel
theorem dX12_makes_49 : decode cX12_makes 49 = .ok (.getfield 83, 3) := by decide +kernel
theorem dX12_makes_52 : decode cX12_makes 52 = .ok (.iload_n 1, 1) := by decide +kernel
theorem dX12_makes_53 : decode cX12_makes 53 = .ok (.iload_n 2, 1) := by decide +kernel
theorem dX12_makes_54 : decode cX12_makes 54 = .ok (.ifCond .ne 7, 3) := by decide +kernel
theorem dX12_makes_57 : decode cX12_makes 57 = .ok (.iconst 0, 1) := by decide +kernel
theorem dX12_makes_58 : decode cX12_makes 58 = .ok (.goto 15, 3) := by decide +kernel
theorem dX12_makes_61 : decode cX12_makes 61 = .ok (.aload_n 0, 1) := by decide +kernel
theorem dX12_makes_62 : decode cX12_makes 62 = .ok (.invokevirtual 335, 3) := by decide +kernel
theorem dX12_makes_65 : decode cX12_makes 65 = .ok (.ifCond .eq 7, 3) := by decide +kernel
theorem dX12_makes_68 : decode cX12_makes 68 = .ok (.iconst 2, 1) := by decide +kernel
theorem dX12_makes_69 : decode cX12_makes 69 = .ok (.goto 4, 3) := by decide +kernel
theorem dX12_makes_72 : decode cX12_makes 72 = .ok (.iconst 1, 1) := by decide +kernel
theorem dX12_makes_73 : decode cX12_makes 73 = .ok (.i2b, 1) := by decide +kernel
theorem dX12_makes_74 : decode cX12_makes 74 = .ok (.bastore, 1) := by decide +kernel
theorem dX12_makes_75 : decode cX12_makes 75 = .ok (.iconst 0, 1) := by decide +kernel
theorem dX12_makes_76 : decode cX12_makes 76 = .ok (.istore_n 3, 1) := by decide +kernel
theorem dX12_makes_77 : decode cX12_makes 77 = .ok (.iload_n 3, 1) := by decide +kernel
theorem dX12_makes_78 : decode cX12_makes 78 = .ok (.aload_n 0, 1) := by decide +kernel
theorem dX12_makes_79 : decode cX12_makes 79 = .ok (.getfield 288, 3) := by decide +kernel
theorem dX12_makes_82 : decode cX12_makes 82 = .ok (.if_icmp .ge 30, 3) := by decide +kernel
theorem dX12_makes_85 : decode cX12_makes 85 = .ok (.iload_n 2, 1) := by decide +kernel
theorem dX12_makes_86 : decode cX12_makes 86 = .ok (.ifCond .eq 26, 3) := by decide +kernel
theorem dX12_makes_89 : decode cX12_makes 89 = .ok (.aload_n 0, 1) := by decide +kernel
theorem dX12_makes_90 : decode cX12_makes 90 = .ok (.getfield 87, 3) := by decide +kernel
theorem dX12_makes_93 : decode cX12_makes 93 = .ok (.ldc 82, 2) := by decide +kernel
theorem dX12_makes_95 : decode cX12_makes 95 = .ok (.iload_n 3, 1) := by decide +kernel
theorem dX12_makes_96 : decode cX12_makes 96 = .ok (.imul, 1) := by decide +kernel
theorem dX12_makes_97 : decode cX12_makes 97 = .ok (.iload_n 1, 1) := by decide +kernel
theorem dX12_makes_98 : decode cX12_makes 98 = .ok (.iadd, 1) := by decide +kernel
theorem dX12_makes_99 : decode cX12_makes 99 = .ok (.aload_n 0, 1) := by decide +kernel
theorem dX12_makes_100 : decode cX12_makes 100 = .ok (.iload_n 3, 1) := by decide +kernel
theorem dX12_makes_101 : decode cX12_makes 101 = .ok (.invokevirtual 338, 3) := by decide +kernel
theorem dX12_makes_104 : decode cX12_makes 104 = .ok (.i2b, 1) := by decide +kernel
theorem dX12_makes_105 : decode cX12_makes 105 = .ok (.bastore, 1) := by decide +kernel
theorem dX12_makes_106 : decode cX12_makes 106 = .ok (.iinc 3 1, 3) := by decide +kernel
theorem dX12_makes_109 : decode cX12_makes 109 = .ok (.goto (-32), 3) := by decide +kernel
theorem dX12_makes_112 : decode cX12_makes 112 = .ok (.iinc 1 1, 3) := by decide +kernel
theorem dX12_makes_115 : decode cX12_makes 115 = .ok (.goto (-81), 3) := by decide +kernel
theorem dX12_makes_118 : decode cX12_makes 118 = .ok (.return_, 1) := by decide +kernel
theorem dX12_isRow_0 : decode cX12_isRow 0 = .ok (.iload_n 1, 1) := by decide +kernel
theorem dX12_isRow_1 : decode cX12_isRow 1 = .ok (.iconst 0, 1) := by decide +kernel
theorem dX12_isRow_2 : decode cX12_isRow 2 = .ok (.aload_n 0, 1) := by decide +kernel
theorem dX12_isRow_3 : decode cX12_isRow 3 = .ok (.getfield 329, 3) := by decide +kernel
theorem dX12_isRow_6 : decode cX12_isRow 6 = .ok (.iconst 1, 1) := by decide +kernel
theorem dX12_isRow_7 : decode cX12_isRow 7 = .ok (.isub, 1) := by decide +kernel
theorem dX12_isRow_8 : decode cX12_isRow 8 = .ok (.invokestatic 153, 3) := by decide +kernel
theorem dX12_isRow_11 : decode cX12_isRow 11 = .ok (.ifCond .eq 16, 3) := by decide +kernel
theorem dX12_isRow_14 : decode cX12_isRow 14 = .ok (.aload_n 0, 1) := by decide +kernel
theorem dX12_isRow_15 : decode cX12_isRow 15 = .ok (.getfield 83, 3) := by decide +kernel
theorem dX12_isRow_18 : decode cX12_isRow 18 = .ok (.iload_n 1, 1) := by decide +kernel
theorem dX12_isRow_19 : decode cX12_isRow 19 = .ok (.baload, 1) := by decide +kernel
theorem dX12_isRow_20 : decode cX12_isRow 20 = .ok (.ifCond .le 7, 3) := by decide +kernel
theorem dX12_isRow_23 : decode cX12_isRow 23 = .ok (.iconst 1, 1) := by decide +kernel
theorem dX12_isRow_24 : decode cX12_isRow 24 = .ok (.goto 4, 3) := by decide +kernel
theorem dX12_isRow_27 : decode cX12_isRow 27 = .ok (.iconst 0, 1) := by decide +kernel
theorem dX12_isRow_28 : decode cX12_isRow 28 = .ok (.ireturn, 1) := by decide +kernel
theorem dX12_isPossible_0 : decode cX12_isPossible 0 = .ok (.aload_n 0, 1) := by decide +kernel
theorem dX12_isPossible_1 : decode cX12_isPossible 1 = .ok (.getfield 83, 3) := by decide +kernel
theorem dX12_isPossible_4 : decode cX12_isPossible 4 = .ok (.iload_n 1, 1) := by decide +kernel
theorem dX12_isPossible_5 : decode cX12_isPossible 5 = .ok (.baload, 1) := by decide +kernel
theorem dX12_isPossible_6 : decode cX12_isPossible 6 = .ok (.iconst 2, 1) := by decide +kernel
theorem dX12_isPossible_7 : decode cX12_isPossible 7 = .ok (.if_icmp .ne 7, 3) := by decide +kernel
theorem dX12_isPossible_10 : decode cX12_isPossible 10 = .ok (.iconst 1, 1) := by decide +kernel
theorem dX12_isPossible_11 : decode cX12_isPossible 11 = .ok (.goto 4, 3) := by decide +kernel
theorem dX12_isPossible_14 : decode cX12_isPossible 14 = .ok (.iconst 0, 1) := by decide +kernel
theorem dX12_isPossible_15 : decode cX12_isPossible 15 = .ok (.ireturn, 1) := by decide +kernel
theorem dX12_paysAt_0 : decode cX12_paysAt 0 = .ok (.aload_n 0, 1) := by decide +kernel
theorem dX12_paysAt_1 : decode cX12_paysAt 1 = .ok (.getfield 87, 3) := by decide +kernel
theorem dX12_paysAt_4 : decode cX12_paysAt 4 = .ok (.ldc 82, 2) := by decide +kernel
theorem dX12_paysAt_6 : decode cX12_paysAt 6 = .ok (.iload_n 1, 1) := by decide +kernel
theorem dX12_paysAt_7 : decode cX12_paysAt 7 = .ok (.imul, 1) := by decide +kernel
theorem dX12_paysAt_8 : decode cX12_paysAt 8 = .ok (.iload_n 2, 1) := by decide +kernel
theorem dX12_paysAt_9 : decode cX12_paysAt 9 = .ok (.iadd, 1) := by decide +kernel
theorem dX12_paysAt_10 : decode cX12_paysAt 10 = .ok (.baload, 1) := by decide +kernel
theorem dX12_paysAt_11 : decode cX12_paysAt 11 = .ok (.tableswitch 55 0 3 #[29, 31, 38, 46], 29) := by decide +kernel
theorem dX12_paysAt_40 : decode cX12_paysAt 40 = .ok (.iconst 0, 1) := by decide +kernel
theorem dX12_paysAt_41 : decode cX12_paysAt 41 = .ok (.ireturn, 1) := by decide +kernel
theorem dX12_paysAt_42 : decode cX12_paysAt 42 = .ok (.aload_n 0, 1) := by decide +kernel
theorem dX12_paysAt_43 : decode cX12_paysAt 43 = .ok (.getfield 25, 3) := by decide +kernel
theorem dX12_paysAt_46 : decode cX12_paysAt 46 = .ok (.iload_n 1, 1) := by decide +kernel
theorem dX12_paysAt_47 : decode cX12_paysAt 47 = .ok (.iaload, 1) := by decide +kernel
theorem dX12_paysAt_48 : decode cX12_paysAt 48 = .ok (.ireturn, 1) := by decide +kernel
theorem dX12_paysAt_49 : decode cX12_paysAt 49 = .ok (.aload_n 0, 1) := by decide +kernel
theorem dX12_paysAt_50 : decode cX12_paysAt 50 = .ok (.getfield 22, 3) := by decide +kernel
theorem dX12_paysAt_53 : decode cX12_paysAt 53 = .ok (.iload_n 1, 1) := by decide +kernel
theorem dX12_paysAt_54 : decode cX12_paysAt 54 = .ok (.iaload, 1) := by decide +kernel
theorem dX12_paysAt_55 : decode cX12_paysAt 55 = .ok (.ineg, 1) := by decide +kernel
theorem dX12_paysAt_56 : decode cX12_paysAt 56 = .ok (.ireturn, 1) := by decide +kernel
theorem dX12_paysAt_57 : decode cX12_paysAt 57 = .ok (.iconst 2, 1) := by decide +kernel
theorem dX12_paysAt_58 : decode cX12_paysAt 58 = .ok (.aload_n 0, 1) := by decide +kernel
theorem dX12_paysAt_59 : decode cX12_paysAt 59 = .ok (.getfield 25, 3) := by decide +kernel
theorem dX12_paysAt_62 : decode cX12_paysAt 62 = .ok (.iload_n 1, 1) := by decide +kernel
theorem dX12_paysAt_63 : decode cX12_paysAt 63 = .ok (.iaload, 1) := by decide +kernel
theorem dX12_paysAt_64 : decode cX12_paysAt 64 = .ok (.imul, 1) := by decide +kernel
theorem dX12_paysAt_65 : decode cX12_paysAt 65 = .ok (.ireturn, 1) := by decide +kernel
theorem dX12_paysAt_66 : decode cX12_paysAt 66 = .ok (.bipush (-2), 2) := by decide +kernel
theorem dX12_paysAt_68 : decode cX12_paysAt 68 = .ok (.aload_n 0, 1) := by decide +kernel
theorem dX12_paysAt_69 : decode cX12_paysAt 69 = .ok (.getfield 22, 3) := by decide +kernel
theorem dX12_paysAt_72 : decode cX12_paysAt 72 = .ok (.iload_n 1, 1) := by decide +kernel
theorem dX12_paysAt_73 : decode cX12_paysAt 73 = .ok (.iaload, 1) := by decide +kernel
theorem dX12_paysAt_74 : decode cX12_paysAt 74 = .ok (.imul, 1) := by decide +kernel
theorem dX12_paysAt_75 : decode cX12_paysAt 75 = .ok (.ireturn, 1) := by decide +kernel
theorem dX12_isLeft_0 : decode cX12_isLeft 0 = .ok (.aload_n 0, 1) := by decide +kernel
theorem dX12_isLeft_1 : decode cX12_isLeft 1 = .ok (.iload_n 1, 1) := by decide +kernel
theorem dX12_isLeft_2 : decode cX12_isLeft 2 = .ok (.invokevirtual 342, 3) := by decide +kernel
theorem dX12_isLeft_5 : decode cX12_isLeft 5 = .ok (.ifCond .ne 5, 3) := by decide +kernel
theorem dX12_isLeft_8 : decode cX12_isLeft 8 = .ok (.iconst 0, 1) := by decide +kernel
theorem dX12_isLeft_9 : decode cX12_isLeft 9 = .ok (.ireturn, 1) := by decide +kernel
theorem dX12_isLeft_10 : decode cX12_isLeft 10 = .ok (.iload_n 1, 1) := by decide +kernel
theorem dX12_isLeft_11 : decode cX12_isLeft 11 = .ok (.istore_n 2, 1) := by decide +kernel
theorem dX12_isLeft_12 : decode cX12_isLeft 12 = .ok (.iconst 0, 1) := by decide +kernel
theorem dX12_isLeft_13 : decode cX12_isLeft 13 = .ok (.istore_n 3, 1) := by decide +kernel
theorem dX12_isLeft_14 : decode cX12_isLeft 14 = .ok (.iload_n 3, 1) := by decide +kernel
theorem dX12_isLeft_15 : decode cX12_isLeft 15 = .ok (.aload_n 0, 1) := by decide +kernel
theorem dX12_isLeft_16 : decode cX12_isLeft 16 = .ok (.getfield 282, 3) := by decide +kernel
theorem dX12_isLeft_19 : decode cX12_isLeft 19 = .ok (.if_icmp .ge 64, 3) := by decide +kernel
theorem dX12_isLeft_22 : decode cX12_isLeft 22 = .ok (.iload_n 2, 1) := by decide +kernel
theorem dX12_isLeft_23 : decode cX12_isLeft 23 = .ok (.bipush 9, 2) := by decide +kernel
theorem dX12_isLeft_25 : decode cX12_isLeft 25 = .ok (.irem, 1) := by decide +kernel
theorem dX12_isLeft_26 : decode cX12_isLeft 26 = .ok (.iconst 1, 1) := by decide +kernel
theorem dX12_isLeft_27 : decode cX12_isLeft 27 = .ok (.isub, 1) := by decide +kernel
theorem dX12_isLeft_28 : decode cX12_isLeft 28 = .ok (.istore 4, 2) := by decide +kernel
theorem dX12_isLeft_30 : decode cX12_isLeft 30 = .ok (.iload_n 2, 1) := by decide +kernel
theorem dX12_isLeft_31 : decode cX12_isLeft 31 = .ok (.bipush 9, 2) := by decide +kernel
theorem dX12_isLeft_33 : decode cX12_isLeft 33 = .ok (.idiv, 1) := by decide +kernel
theorem dX12_isLeft_34 : decode cX12_isLeft 34 = .ok (.istore_n 2, 1) := by decide +kernel
theorem dX12_isLeft_35 : decode cX12_isLeft 35 = .ok (.aload_n 0, 1) := by decide +kernel
theorem dX12_isLeft_36 : decode cX12_isLeft 36 = .ok (.getfield 304, 3) := by decide +kernel
theorem dX12_isLeft_39 : decode cX12_isLeft 39 = .ok (.iload_n 3, 1) := by decide +kernel
theorem dX12_isLeft_40 : decode cX12_isLeft 40 = .ok (.invokestatic 345, 3) := by decide +kernel
theorem dX12_isLeft_43 : decode cX12_isLeft 43 = .ok (.ifCond .eq 17, 3) := by decide +kernel
theorem dX12_isLeft_46 : decode cX12_isLeft 46 = .ok (.iload 4, 2) := by decide +kernel
theorem dX12_isLeft_48 : decode cX12_isLeft 48 = .ok (.aload_n 0, 1) := by decide +kernel
theorem dX12_isLeft_49 : decode cX12_isLeft 49 = .ok (.getfield 94, 3) := by decide +kernel
theorem dX12_isLeft_52 : decode cX12_isLeft 52 = .ok (.iload_n 3, 1) := by decide +kernel
theorem dX12_isLeft_53 : decode cX12_isLeft 53 = .ok (.iaload, 1) := by decide +kernel
theorem dX12_isLeft_54 : decode cX12_isLeft 54 = .ok (.if_icmp .eq 23, 3) := by decide +kernel
theorem dX12_isLeft_57 : decode cX12_isLeft 57 = .ok (.goto 18, 3) := by decide +kernel
theorem dX12_isLeft_60 : decode cX12_isLeft 60 = .ok (.iload 4, 2) := by decide +kernel
theorem dX12_isLeft_62 : decode cX12_isLeft 62 = .ok (.iconst (-1), 1) := by decide +kernel
theorem dX12_isLeft_63 : decode cX12_isLeft 63 = .ok (.if_icmp .eq 14, 3) := by decide +kernel
theorem dX12_isLeft_66 : decode cX12_isLeft 66 = .ok (.iload 4, 2) := by decide +kernel
theorem dX12_isLeft_68 : decode cX12_isLeft 68 = .ok (.aload_n 0, 1) := by decide +kernel
theorem dX12_isLeft_69 : decode cX12_isLeft 69 = .ok (.getfield 301, 3) := by decide +kernel
theorem dX12_isLeft_72 : decode cX12_isLeft 72 = .ok (.if_icmp .ge 5, 3) := by decide +kernel
theorem dX12_isLeft_75 : decode cX12_isLeft 75 = .ok (.iconst 0, 1) := by decide +kernel
theorem dX12_isLeft_76 : decode cX12_isLeft 76 = .ok (.ireturn, 1) := by decide +kernel
theorem dX12_isLeft_77 : decode cX12_isLeft 77 = .ok (.iinc 3 1, 3) := by decide +kernel
theorem dX12_isLeft_80 : decode cX12_isLeft 80 = .ok (.goto (-66), 3) := by decide +kernel
theorem dX12_isLeft_83 : decode cX12_isLeft 83 = .ok (.iconst 1, 1) := by decide +kernel
theorem dX12_isLeft_84 : decode cX12_isLeft 84 = .ok (.ireturn, 1) := by decide +kernel
theorem dX12_leftMany_0 : decode cX12_leftMany 0 = .ok (.iconst 0, 1) := by decide +kernel
theorem dX12_leftMany_1 : decode cX12_leftMany 1 = .ok (.istore_n 1, 1) := by decide +kernel
theorem dX12_leftMany_2 : decode cX12_leftMany 2 = .ok (.iconst 0, 1) := by decide +kernel
theorem dX12_leftMany_3 : decode cX12_leftMany 3 = .ok (.istore_n 2, 1) := by decide +kernel
theorem dX12_leftMany_4 : decode cX12_leftMany 4 = .ok (.iload_n 2, 1) := by decide +kernel
theorem dX12_leftMany_5 : decode cX12_leftMany 5 = .ok (.aload_n 0, 1) := by decide +kernel
theorem dX12_leftMany_6 : decode cX12_leftMany 6 = .ok (.getfield 329, 3) := by decide +kernel
theorem dX12_leftMany_9 : decode cX12_leftMany 9 = .ok (.if_icmp .ge 20, 3) := by decide +kernel
theorem dX12_leftMany_12 : decode cX12_leftMany 12 = .ok (.iload_n 1, 1) := by decide +kernel
theorem dX12_leftMany_13 : decode cX12_leftMany 13 = .ok (.aload_n 0, 1) := by decide +kernel
theorem dX12_leftMany_14 : decode cX12_leftMany 14 = .ok (.iload_n 2, 1) := by decide +kernel
theorem dX12_leftMany_15 : decode cX12_leftMany 15 = .ok (.invokevirtual 348, 3) := by decide +kernel
theorem dX12_leftMany_18 : decode cX12_leftMany 18 = .ok (.invokestatic 319, 3) := by decide +kernel
theorem dX12_leftMany_21 : decode cX12_leftMany 21 = .ok (.iadd, 1) := by decide +kernel
theorem dX12_leftMany_22 : decode cX12_leftMany 22 = .ok (.istore_n 1, 1) := by decide +kernel
theorem dX12_leftMany_23 : decode cX12_leftMany 23 = .ok (.iinc 2 1, 3) := by decide +kernel
theorem dX12_leftMany_26 : decode cX12_leftMany 26 = .ok (.goto (-22), 3) := by decide +kernel
theorem dX12_leftMany_29 : decode cX12_leftMany 29 = .ok (.iload_n 1, 1) := by decide +kernel
theorem dX12_leftMany_30 : decode cX12_leftMany 30 = .ok (.ireturn, 1) := by decide +kernel
theorem dX12_day_0 : decode cX12_day 0 = .ok (.iload_n 1, 1) := by decide +kernel
theorem dX12_day_1 : decode cX12_day 1 = .ok (.aload_n 0, 1) := by decide +kernel
theorem dX12_day_2 : decode cX12_day 2 = .ok (.getfield 301, 3) := by decide +kernel
theorem dX12_day_5 : decode cX12_day 5 = .ok (.iconst 1, 1) := by decide +kernel
theorem dX12_day_6 : decode cX12_day 6 = .ok (.iadd, 1) := by decide +kernel
theorem dX12_day_7 : decode cX12_day 7 = .ok (.bipush 7, 2) := by decide +kernel
theorem dX12_day_9 : decode cX12_day 9 = .ok (.invokestatic 153, 3) := by decide +kernel
theorem dX12_day_12 : decode cX12_day 12 = .ok (.ifCond .ne 5, 3) := by decide +kernel
theorem dX12_day_15 : decode cX12_day 15 = .ok (.iconst (-1), 1) := by decide +kernel
theorem dX12_day_16 : decode cX12_day 16 = .ok (.ireturn, 1) := by decide +kernel
theorem dX12_day_17 : decode cX12_day 17 = .ok (.aload_n 0, 1) := by decide +kernel
theorem dX12_day_18 : decode cX12_day 18 = .ok (.getfield 301, 3) := by decide +kernel
theorem dX12_day_21 : decode cX12_day 21 = .ok (.istore_n 2, 1) := by decide +kernel
theorem dX12_day_22 : decode cX12_day 22 = .ok (.aload_n 0, 1) := by decide +kernel
theorem dX12_day_23 : decode cX12_day 23 = .ok (.iload_n 1, 1) := by decide +kernel
theorem dX12_day_24 : decode cX12_day 24 = .ok (.putfield 301, 3) := by decide +kernel
theorem dX12_day_27 : decode cX12_day 27 = .ok (.aload_n 0, 1) := by decide +kernel
theorem dX12_day_28 : decode cX12_day 28 = .ok (.invokevirtual 351, 3) := by decide +kernel
theorem dX12_day_31 : decode cX12_day 31 = .ok (.istore_n 3, 1) := by decide +kernel
theorem dX12_day_32 : decode cX12_day 32 = .ok (.iload_n 3, 1) := by decide +kernel
theorem dX12_day_33 : decode cX12_day 33 = .ok (.ifCond .le 5, 3) := by decide +kernel
theorem dX12_day_36 : decode cX12_day 36 = .ok (.iload_n 3, 1) := by decide +kernel
theorem dX12_day_37 : decode cX12_day 37 = .ok (.ireturn, 1) := by decide +kernel
theorem dX12_day_38 : decode cX12_day 38 = .ok (.aload_n 0, 1) := by decide +kernel
theorem dX12_day_39 : decode cX12_day 39 = .ok (.iload_n 2, 1) := by decide +kernel
theorem dX12_day_40 : decode cX12_day 40 = .ok (.putfield 301, 3) := by decide +kernel
theorem dX12_day_43 : decode cX12_day 43 = .ok (.iconst (-1), 1) := by decide +kernel
theorem dX12_day_44 : decode cX12_day 44 = .ok (.ireturn, 1) := by decide +kernel
theorem dX12_isThing_0 : decode cX12_isThing 0 = .ok (.iload_n 1, 1) := by decide +kernel
theorem dX12_isThing_1 : decode cX12_isThing 1 = .ok (.iconst 0, 1) := by decide +kernel
theorem dX12_isThing_2 : decode cX12_isThing 2 = .ok (.aload_n 0, 1) := by decide +kernel
theorem dX12_isThing_3 : decode cX12_isThing 3 = .ok (.getfield 282, 3) := by decide +kernel
theorem dX12_isThing_6 : decode cX12_isThing 6 = .ok (.iconst 1, 1) := by decide +kernel
theorem dX12_isThing_7 : decode cX12_isThing 7 = .ok (.isub, 1) := by decide +kernel
theorem dX12_isThing_8 : decode cX12_isThing 8 = .ok (.invokestatic 153, 3) := by decide +kernel
theorem dX12_isThing_11 : decode cX12_isThing 11 = .ok (.ireturn, 1) := by decide +kernel
theorem dX12_isMember_0 : decode cX12_isMember 0 = .ok (.iload_n 1, 1) := by decide +kernel
theorem dX12_isMember_1 : decode cX12_isMember 1 = .ok (.iconst 0, 1) := by decide +kernel
theorem dX12_isMember_2 : decode cX12_isMember 2 = .ok (.aload_n 0, 1) := by decide +kernel
theorem dX12_isMember_3 : decode cX12_isMember 3 = .ok (.getfield 285, 3) := by decide +kernel
theorem dX12_isMember_6 : decode cX12_isMember 6 = .ok (.iconst 1, 1) := by decide +kernel
theorem dX12_isMember_7 : decode cX12_isMember 7 = .ok (.isub, 1) := by decide +kernel
theorem dX12_isMember_8 : decode cX12_isMember 8 = .ok (.invokestatic 153, 3) := by decide +kernel
theorem dX12_isMember_11 : decode cX12_isMember 11 = .ok (.ireturn, 1) := by decide +kernel
theorem dX12_isWager_0 : decode cX12_isWager 0 = .ok (.iload_n 1, 1) := by decide +kernel
theorem dX12_isWager_1 : decode cX12_isWager 1 = .ok (.iconst 0, 1) := by decide +kernel
theorem dX12_isWager_2 : decode cX12_isWager 2 = .ok (.aload_n 0, 1) := by decide +kernel
theorem dX12_isWager_3 : decode cX12_isWager 3 = .ok (.getfield 288, 3) := by decide +kernel
theorem dX12_isWager_6 : decode cX12_isWager 6 = .ok (.iconst 1, 1) := by decide +kernel
theorem dX12_isWager_7 : decode cX12_isWager 7 = .ok (.isub, 1) := by decide +kernel
theorem dX12_isWager_8 : decode cX12_isWager 8 = .ok (.invokestatic 153, 3) := by decide +kernel
theorem dX12_isWager_11 : decode cX12_isWager 11 = .ok (.ireturn, 1) := by decide +kernel
theorem dX12_come_0 : decode cX12_come 0 = .ok (.aload_n 0, 1) := by decide +kernel
theorem dX12_come_1 : decode cX12_come 1 = .ok (.iload_n 1, 1) := by decide +kernel
theorem dX12_come_2 : decode cX12_come 2 = .ok (.invokevirtual 355, 3) := by decide +kernel
theorem dX12_come_5 : decode cX12_come 5 = .ok (.ifCond .eq 14, 3) := by decide +kernel
theorem dX12_come_8 : decode cX12_come 8 = .ok (.aload_n 0, 1) := by decide +kernel
theorem dX12_come_9 : decode cX12_come 9 = .ok (.getfield 304, 3) := by decide +kernel
theorem dX12_come_12 : decode cX12_come 12 = .ok (.iload_n 1, 1) := by decide +kernel
theorem dX12_come_13 : decode cX12_come 13 = .ok (.invokestatic 345, 3) := by decide +kernel
theorem dX12_come_16 : decode cX12_come 16 = .ok (.ifCond .eq 5, 3) := by decide +kernel
theorem dX12_come_19 : decode cX12_come 19 = .ok (.iconst (-1), 1) := by decide +kernel
theorem dX12_come_20 : decode cX12_come 20 = .ok (.ireturn, 1) := by decide +kernel
theorem dX12_come_21 : decode cX12_come 21 = .ok (.aload_n 0, 1) := by decide +kernel
theorem dX12_come_22 : decode cX12_come 22 = .ok (.dup, 1) := by decide +kernel
theorem dX12_come_23 : decode cX12_come 23 = .ok (.getfield 304, 3) := by decide +kernel
theorem dX12_come_26 : decode cX12_come 26 = .ok (.iconst 1, 1) := by decide +kernel
theorem dX12_come_27 : decode cX12_come 27 = .ok (.iload_n 1, 1) := by decide +kernel
theorem dX12_come_28 : decode cX12_come 28 = .ok (.ishl, 1) := by decide +kernel
theorem dX12_come_29 : decode cX12_come 29 = .ok (.ior, 1) := by decide +kernel
theorem dX12_come_30 : decode cX12_come 30 = .ok (.putfield 304, 3) := by decide +kernel
theorem dX12_come_33 : decode cX12_come 33 = .ok (.aload_n 0, 1) := by decide +kernel
theorem dX12_come_34 : decode cX12_come 34 = .ok (.getfield 94, 3) := by decide +kernel
theorem dX12_come_37 : decode cX12_come 37 = .ok (.iload_n 1, 1) := by decide +kernel
theorem dX12_come_38 : decode cX12_come 38 = .ok (.aload_n 0, 1) := by decide +kernel
theorem dX12_come_39 : decode cX12_come 39 = .ok (.getfield 301, 3) := by decide +kernel
theorem dX12_come_42 : decode cX12_come 42 = .ok (.iastore, 1) := by decide +kernel
theorem dX12_come_43 : decode cX12_come 43 = .ok (.aload_n 0, 1) := by decide +kernel
theorem dX12_come_44 : decode cX12_come 44 = .ok (.invokevirtual 351, 3) := by decide +kernel
theorem dX12_come_47 : decode cX12_come 47 = .ok (.istore_n 2, 1) := by decide +kernel
theorem dX12_come_48 : decode cX12_come 48 = .ok (.iload_n 2, 1) := by decide +kernel
theorem dX12_come_49 : decode cX12_come 49 = .ok (.ifCond .le 5, 3) := by decide +kernel
theorem dX12_come_52 : decode cX12_come 52 = .ok (.iload_n 2, 1) := by decide +kernel
theorem dX12_come_53 : decode cX12_come 53 = .ok (.ireturn, 1) := by decide +kernel
theorem dX12_come_54 : decode cX12_come 54 = .ok (.aload_n 0, 1) := by decide +kernel
theorem dX12_come_55 : decode cX12_come 55 = .ok (.dup, 1) := by decide +kernel
theorem dX12_come_56 : decode cX12_come 56 = .ok (.getfield 304, 3) := by decide +kernel
theorem dX12_come_59 : decode cX12_come 59 = .ok (.iconst 1, 1) := by decide +kernel
theorem dX12_come_60 : decode cX12_come 60 = .ok (.iload_n 1, 1) := by decide +kernel
theorem dX12_come_61 : decode cX12_come 61 = .ok (.ishl, 1) := by decide +kernel
theorem dX12_come_62 : decode cX12_come 62 = .ok (.iconst (-1), 1) := by decide +kernel
theorem dX12_come_63 : decode cX12_come 63 = .ok (.ixor, 1) := by decide +kernel
theorem dX12_come_64 : decode cX12_come 64 = .ok (.iand, 1) := by decide +kernel
theorem dX12_come_65 : decode cX12_come 65 = .ok (.putfield 304, 3) := by decide +kernel
theorem dX12_come_68 : decode cX12_come 68 = .ok (.iconst (-1), 1) := by decide +kernel
theorem dX12_come_69 : decode cX12_come 69 = .ok (.ireturn, 1) := by decide +kernel
theorem dX12_rows_0 : decode cX12_rows 0 = .ok (.iload_n 1, 1) := by decide +kernel
theorem dX12_rows_1 : decode cX12_rows 1 = .ok (.iconst (-1), 1) := by decide +kernel
theorem dX12_rows_2 : decode cX12_rows 2 = .ok (.if_icmp .ne 8, 3) := by decide +kernel
theorem dX12_rows_5 : decode cX12_rows 5 = .ok (.aload_n 0, 1) := by decide +kernel
theorem dX12_rows_6 : decode cX12_rows 6 = .ok (.invokevirtual 351, 3) := by decide +kernel
theorem dX12_rows_9 : decode cX12_rows 9 = .ok (.ireturn, 1) := by decide +kernel
theorem dX12_rows_10 : decode cX12_rows 10 = .ok (.iload_n 1, 1) := by decide +kernel
theorem dX12_rows_11 : decode cX12_rows 11 = .ok (.istore_n 2, 1) := by decide +kernel
theorem dX12_rows_12 : decode cX12_rows 12 = .ok (.iconst 0, 1) := by decide +kernel
theorem dX12_rows_13 : decode cX12_rows 13 = .ok (.istore_n 3, 1) := by decide +kernel
theorem dX12_rows_14 : decode cX12_rows 14 = .ok (.iload_n 3, 1) := by decide +kernel
theorem dX12_rows_15 : decode cX12_rows 15 = .ok (.aload_n 0, 1) := by decide +kernel
theorem dX12_rows_16 : decode cX12_rows 16 = .ok (.getfield 329, 3) := by decide +kernel
theorem dX12_rows_19 : decode cX12_rows 19 = .ok (.if_icmp .ge 33, 3) := by decide +kernel
theorem dX12_rows_22 : decode cX12_rows 22 = .ok (.iload_n 1, 1) := by decide +kernel
theorem dX12_rows_23 : decode cX12_rows 23 = .ok (.ifCond .lt 29, 3) := by decide +kernel
theorem dX12_rows_26 : decode cX12_rows 26 = .ok (.aload_n 0, 1) := by decide +kernel
theorem dX12_rows_27 : decode cX12_rows 27 = .ok (.iload_n 3, 1) := by decide +kernel
theorem dX12_rows_28 : decode cX12_rows 28 = .ok (.invokevirtual 348, 3) := by decide +kernel
theorem dX12_rows_31 : decode cX12_rows 31 = .ok (.ifCond .ne 6, 3) := by decide +kernel
theorem dX12_rows_34 : decode cX12_rows 34 = .ok (.goto 12, 3) := by decide +kernel
theorem dX12_rows_37 : decode cX12_rows 37 = .ok (.iload_n 2, 1) := by decide +kernel
theorem dX12_rows_38 : decode cX12_rows 38 = .ok (.ifCond .ne 5, 3) := by decide +kernel
theorem dX12_rows_41 : decode cX12_rows 41 = .ok (.iload_n 3, 1) := by decide +kernel
theorem dX12_rows_42 : decode cX12_rows 42 = .ok (.ireturn, 1) := by decide +kernel
theorem dX12_rows_43 : decode cX12_rows 43 = .ok (.iinc 2 (-1), 3) := by decide +kernel
theorem dX12_rows_46 : decode cX12_rows 46 = .ok (.iinc 3 1, 3) := by decide +kernel
theorem dX12_rows_49 : decode cX12_rows 49 = .ok (.goto (-35), 3) := by decide +kernel
theorem dX12_rows_52 : decode cX12_rows 52 = .ok (.iconst (-1), 1) := by decide +kernel
theorem dX12_rows_53 : decode cX12_rows 53 = .ok (.ireturn, 1) := by decide +kernel
theorem dX12_fits_0 : decode cX12_fits 0 = .ok (.aload_n 0, 1) := by decide +kernel
theorem dX12_fits_1 : decode cX12_fits 1 = .ok (.iload_n 1, 1) := by decide +kernel
theorem dX12_fits_2 : decode cX12_fits 2 = .ok (.invokevirtual 358, 3) := by decide +kernel
theorem dX12_fits_5 : decode cX12_fits 5 = .ok (.ifCond .ne 7, 3) := by decide +kernel
theorem dX12_fits_8 : decode cX12_fits 8 = .ok (.iconst (-1), 1) := by decide +kernel
theorem dX12_fits_9 : decode cX12_fits 9 = .ok (.goto 28, 3) := by decide +kernel
theorem dX12_fits_12 : decode cX12_fits 12 = .ok (.aload_n 0, 1) := by decide +kernel
theorem dX12_fits_13 : decode cX12_fits 13 = .ok (.iload_n 1, 1) := by decide +kernel
theorem dX12_fits_14 : decode cX12_fits 14 = .ok (.invokevirtual 348, 3) := by decide +kernel
theorem dX12_fits_17 : decode cX12_fits 17 = .ok (.ifCond .eq 7, 3) := by decide +kernel
theorem dX12_fits_20 : decode cX12_fits 20 = .ok (.iconst 2, 1) := by decide +kernel
theorem dX12_fits_21 : decode cX12_fits 21 = .ok (.goto 16, 3) := by decide +kernel
theorem dX12_fits_24 : decode cX12_fits 24 = .ok (.aload_n 0, 1) := by decide +kernel
theorem dX12_fits_25 : decode cX12_fits 25 = .ok (.iload_n 1, 1) := by decide +kernel
theorem dX12_fits_26 : decode cX12_fits 26 = .ok (.invokevirtual 342, 3) := by decide +kernel
theorem dX12_fits_29 : decode cX12_fits 29 = .ok (.ifCond .eq 7, 3) := by decide +kernel
theorem dX12_fits_32 : decode cX12_fits 32 = .ok (.iconst 1, 1) := by decide +kernel
theorem dX12_fits_33 : decode cX12_fits 33 = .ok (.goto 4, 3) := by decide +kernel
theorem dX12_fits_36 : decode cX12_fits 36 = .ok (.iconst 0, 1) := by decide +kernel
theorem dX12_fits_37 : decode cX12_fits 37 = .ok (.ireturn, 1) := by decide +kernel
theorem dX12_pays_0 : decode cX12_pays 0 = .ok (.aload_n 0, 1) := by decide +kernel
theorem dX12_pays_1 : decode cX12_pays 1 = .ok (.iload_n 1, 1) := by decide +kernel
theorem dX12_pays_2 : decode cX12_pays 2 = .ok (.invokevirtual 361, 3) := by decide +kernel
theorem dX12_pays_5 : decode cX12_pays 5 = .ok (.ifCond .eq 20, 3) := by decide +kernel
theorem dX12_pays_8 : decode cX12_pays 8 = .ok (.aload_n 0, 1) := by decide +kernel
theorem dX12_pays_9 : decode cX12_pays 9 = .ok (.iload_n 2, 1) := by decide +kernel
theorem dX12_pays_10 : decode cX12_pays 10 = .ok (.invokevirtual 358, 3) := by decide +kernel
theorem dX12_pays_13 : decode cX12_pays 13 = .ok (.ifCond .eq 12, 3) := by decide +kernel
theorem dX12_pays_16 : decode cX12_pays 16 = .ok (.aload_n 0, 1) := by decide +kernel
theorem dX12_pays_17 : decode cX12_pays 17 = .ok (.iload_n 1, 1) := by decide +kernel
theorem dX12_pays_18 : decode cX12_pays 18 = .ok (.iload_n 2, 1) := by decide +kernel
theorem dX12_pays_19 : decode cX12_pays 19 = .ok (.invokevirtual 364, 3) := by decide +kernel
theorem dX12_pays_22 : decode cX12_pays 22 = .ok (.goto 6, 3) := by decide +kernel
theorem dX12_pays_25 : decode cX12_pays 25 = .ok (.ldc_w 368, 3) := by decide +kernel
theorem dX12_pays_28 : decode cX12_pays 28 = .ok (.ireturn, 1) := by decide +kernel
theorem dX12_isSure_0 : decode cX12_isSure 0 = .ok (.iconst 0, 1) := by decide +kernel
theorem dX12_isSure_1 : decode cX12_isSure 1 = .ok (.istore_n 2, 1) := by decide +kernel
theorem dX12_isSure_2 : decode cX12_isSure 2 = .ok (.aload_n 0, 1) := by decide +kernel
theorem dX12_isSure_3 : decode cX12_isSure 3 = .ok (.iconst 0, 1) := by decide +kernel
theorem dX12_isSure_4 : decode cX12_isSure 4 = .ok (.putfield 369, 3) := by decide +kernel
theorem dX12_isSure_7 : decode cX12_isSure 7 = .ok (.iconst 0, 1) := by decide +kernel
theorem dX12_isSure_8 : decode cX12_isSure 8 = .ok (.istore_n 3, 1) := by decide +kernel
theorem dX12_isSure_9 : decode cX12_isSure 9 = .ok (.iload_n 3, 1) := by decide +kernel
theorem dX12_isSure_10 : decode cX12_isSure 10 = .ok (.aload_n 0, 1) := by decide +kernel
theorem dX12_isSure_11 : decode cX12_isSure 11 = .ok (.getfield 329, 3) := by decide +kernel
theorem dX12_isSure_14 : decode cX12_isSure 14 = .ok (.if_icmp .ge 51, 3) := by decide +kernel
theorem dX12_isSure_17 : decode cX12_isSure 17 = .ok (.aload_n 0, 1) := by decide +kernel
theorem dX12_isSure_18 : decode cX12_isSure 18 = .ok (.iload_n 3, 1) := by decide +kernel
theorem dX12_isSure_19 : decode cX12_isSure 19 = .ok (.invokevirtual 348, 3) := by decide +kernel
theorem dX12_isSure_22 : decode cX12_isSure 22 = .ok (.ifCond .ne 6, 3) := by decide +kernel
theorem dX12_isSure_25 : decode cX12_isSure 25 = .ok (.goto 34, 3) := by decide +kernel
theorem dX12_isSure_28 : decode cX12_isSure 28 = .ok (.aload_n 0, 1) := by decide +kernel
theorem dX12_isSure_29 : decode cX12_isSure 29 = .ok (.iload_n 1, 1) := by decide +kernel
theorem dX12_isSure_30 : decode cX12_isSure 30 = .ok (.iload_n 3, 1) := by decide +kernel
theorem dX12_isSure_31 : decode cX12_isSure 31 = .ok (.invokevirtual 364, 3) := by decide +kernel
theorem dX12_isSure_34 : decode cX12_isSure 34 = .ok (.istore 4, 2) := by decide +kernel
theorem dX12_isSure_36 : decode cX12_isSure 36 = .ok (.iload_n 2, 1) := by decide +kernel
theorem dX12_isSure_37 : decode cX12_isSure 37 = .ok (.ifCond .eq 14, 3) := by decide +kernel
theorem dX12_isSure_40 : decode cX12_isSure 40 = .ok (.iload 4, 2) := by decide +kernel
theorem dX12_isSure_42 : decode cX12_isSure 42 = .ok (.aload_n 0, 1) := by decide +kernel
theorem dX12_isSure_43 : decode cX12_isSure 43 = .ok (.getfield 369, 3) := by decide +kernel
theorem dX12_isSure_46 : decode cX12_isSure 46 = .ok (.if_icmp .eq 5, 3) := by decide +kernel
theorem dX12_isSure_49 : decode cX12_isSure 49 = .ok (.iconst 0, 1) := by decide +kernel
theorem dX12_isSure_50 : decode cX12_isSure 50 = .ok (.ireturn, 1) := by decide +kernel
theorem dX12_isSure_51 : decode cX12_isSure 51 = .ok (.aload_n 0, 1) := by decide +kernel
theorem dX12_isSure_52 : decode cX12_isSure 52 = .ok (.iload 4, 2) := by decide +kernel
theorem dX12_isSure_54 : decode cX12_isSure 54 = .ok (.putfield 369, 3) := by decide +kernel
theorem dX12_isSure_57 : decode cX12_isSure 57 = .ok (.iconst 1, 1) := by decide +kernel
theorem dX12_isSure_58 : decode cX12_isSure 58 = .ok (.istore_n 2, 1) := by decide +kernel
theorem dX12_isSure_59 : decode cX12_isSure 59 = .ok (.iinc 3 1, 3) := by decide +kernel
theorem dX12_isSure_62 : decode cX12_isSure 62 = .ok (.goto (-53), 3) := by decide +kernel
theorem dX12_isSure_65 : decode cX12_isSure 65 = .ok (.iconst 1, 1) := by decide +kernel
theorem dX12_isSure_66 : decode cX12_isSure 66 = .ok (.ireturn, 1) := by decide +kernel
theorem dX12_sure_0 : decode cX12_sure 0 = .ok (.aload_n 0, 1) := by decide +kernel
theorem dX12_sure_1 : decode cX12_sure 1 = .ok (.iload_n 1, 1) := by decide +kernel
theorem dX12_sure_2 : decode cX12_sure 2 = .ok (.invokevirtual 361, 3) := by decide +kernel
theorem dX12_sure_5 : decode cX12_sure 5 = .ok (.ifCond .eq 12, 3) := by decide +kernel
theorem dX12_sure_8 : decode cX12_sure 8 = .ok (.iload_n 2, 1) := by decide +kernel
theorem dX12_sure_9 : decode cX12_sure 9 = .ok (.iconst 0, 1) := by decide +kernel
theorem dX12_sure_10 : decode cX12_sure 10 = .ok (.iconst 1, 1) := by decide +kernel
theorem dX12_sure_11 : decode cX12_sure 11 = .ok (.invokestatic 153, 3) := by decide +kernel
theorem dX12_sure_14 : decode cX12_sure 14 = .ok (.ifCond .ne 7, 3) := by decide +kernel
theorem dX12_sure_17 : decode cX12_sure 17 = .ok (.ldc_w 368, 3) := by decide +kernel
theorem dX12_sure_20 : decode cX12_sure 20 = .ok (.ireturn, 1) := by decide +kernel
theorem dX12_sure_21 : decode cX12_sure 21 = .ok (.aload_n 0, 1) := by decide +kernel
theorem dX12_sure_22 : decode cX12_sure 22 = .ok (.iload_n 1, 1) := by decide +kernel
theorem dX12_sure_23 : decode cX12_sure 23 = .ok (.invokevirtual 372, 3) := by decide +kernel
theorem dX12_sure_26 : decode cX12_sure 26 = .ok (.istore_n 3, 1) := by decide +kernel
theorem dX12_sure_27 : decode cX12_sure 27 = .ok (.iload_n 2, 1) := by decide +kernel
theorem dX12_sure_28 : decode cX12_sure 28 = .ok (.ifCond .ne 10, 3) := by decide +kernel
theorem dX12_sure_31 : decode cX12_sure 31 = .ok (.iload_n 3, 1) := by decide +kernel
theorem dX12_sure_32 : decode cX12_sure 32 = .ok (.invokestatic 319, 3) := by decide +kernel
theorem dX12_sure_35 : decode cX12_sure 35 = .ok (.goto 15, 3) := by decide +kernel
theorem dX12_sure_38 : decode cX12_sure 38 = .ok (.iload_n 3, 1) := by decide +kernel
theorem dX12_sure_39 : decode cX12_sure 39 = .ok (.ifCond .eq 10, 3) := by decide +kernel
theorem dX12_sure_42 : decode cX12_sure 42 = .ok (.aload_n 0, 1) := by decide +kernel
theorem dX12_sure_43 : decode cX12_sure 43 = .ok (.getfield 369, 3) := by decide +kernel
theorem dX12_sure_46 : decode cX12_sure 46 = .ok (.goto 4, 3) := by decide +kernel
theorem dX12_sure_49 : decode cX12_sure 49 = .ok (.iconst 0, 1) := by decide +kernel
theorem dX12_sure_50 : decode cX12_sure 50 = .ok (.ireturn, 1) := by decide +kernel
theorem dX12_split_0 : decode cX12_split 0 = .ok (.aload_n 0, 1) := by decide +kernel
theorem dX12_split_1 : decode cX12_split 1 = .ok (.iload_n 1, 1) := by decide +kernel
theorem dX12_split_2 : decode cX12_split 2 = .ok (.invokevirtual 361, 3) := by decide +kernel
theorem dX12_split_5 : decode cX12_split 5 = .ok (.ifCond .eq 12, 3) := by decide +kernel
theorem dX12_split_8 : decode cX12_split 8 = .ok (.iload_n 2, 1) := by decide +kernel
theorem dX12_split_9 : decode cX12_split 9 = .ok (.iconst 0, 1) := by decide +kernel
theorem dX12_split_10 : decode cX12_split 10 = .ok (.iconst 3, 1) := by decide +kernel
theorem dX12_split_11 : decode cX12_split 11 = .ok (.invokestatic 153, 3) := by decide +kernel
theorem dX12_split_14 : decode cX12_split 14 = .ok (.ifCond .ne 5, 3) := by decide +kernel
theorem dX12_split_17 : decode cX12_split 17 = .ok (.iconst (-1), 1) := by decide +kernel
theorem dX12_split_18 : decode cX12_split 18 = .ok (.ireturn, 1) := by decide +kernel
theorem dX12_split_19 : decode cX12_split 19 = .ok (.iconst 0, 1) := by decide +kernel
theorem dX12_split_20 : decode cX12_split 20 = .ok (.istore_n 3, 1) := by decide +kernel
theorem dX12_split_21 : decode cX12_split 21 = .ok (.iconst 0, 1) := by decide +kernel
theorem dX12_split_22 : decode cX12_split 22 = .ok (.istore 4, 2) := by decide +kernel
theorem dX12_split_24 : decode cX12_split 24 = .ok (.iload 4, 2) := by decide +kernel
theorem dX12_split_26 : decode cX12_split 26 = .ok (.aload_n 0, 1) := by decide +kernel
theorem dX12_split_27 : decode cX12_split 27 = .ok (.getfield 329, 3) := by decide +kernel
theorem dX12_split_30 : decode cX12_split 30 = .ok (.if_icmp .ge 119, 3) := by decide +kernel
theorem dX12_split_33 : decode cX12_split 33 = .ok (.aload_n 0, 1) := by decide +kernel
theorem dX12_split_34 : decode cX12_split 34 = .ok (.iload 4, 2) := by decide +kernel
theorem dX12_split_36 : decode cX12_split 36 = .ok (.invokevirtual 348, 3) := by decide +kernel
theorem dX12_split_39 : decode cX12_split 39 = .ok (.ifCond .ne 6, 3) := by decide +kernel
theorem dX12_split_42 : decode cX12_split 42 = .ok (.goto 101, 3) := by decide +kernel
theorem dX12_split_45 : decode cX12_split 45 = .ok (.aload_n 0, 1) := by decide +kernel
theorem dX12_split_46 : decode cX12_split 46 = .ok (.getfield 87, 3) := by decide +kernel
theorem dX12_split_49 : decode cX12_split 49 = .ok (.ldc 82, 2) := by decide +kernel
theorem dX12_split_51 : decode cX12_split 51 = .ok (.iload_n 1, 1) := by decide +kernel
theorem dX12_split_52 : decode cX12_split 52 = .ok (.imul, 1) := by decide +kernel
theorem dX12_split_53 : decode cX12_split 53 = .ok (.iload 4, 2) := by decide +kernel
theorem dX12_split_55 : decode cX12_split 55 = .ok (.iadd, 1) := by decide +kernel
theorem dX12_split_56 : decode cX12_split 56 = .ok (.baload, 1) := by decide +kernel
theorem dX12_split_57 : decode cX12_split 57 = .ok (.istore 5, 2) := by decide +kernel
theorem dX12_split_59 : decode cX12_split 59 = .ok (.iload_n 3, 1) := by decide +kernel
theorem dX12_split_60 : decode cX12_split 60 = .ok (.iload_n 2, 1) := by decide +kernel
theorem dX12_split_61 : decode cX12_split 61 = .ok (.ifCond .ne 23, 3) := by decide +kernel
theorem dX12_split_64 : decode cX12_split 64 = .ok (.iload 5, 2) := by decide +kernel
theorem dX12_split_66 : decode cX12_split 66 = .ok (.iconst 1, 1) := by decide +kernel
theorem dX12_split_67 : decode cX12_split 67 = .ok (.if_icmp .eq 9, 3) := by decide +kernel
theorem dX12_split_70 : decode cX12_split 70 = .ok (.iload 5, 2) := by decide +kernel
theorem dX12_split_72 : decode cX12_split 72 = .ok (.iconst 3, 1) := by decide +kernel
theorem dX12_split_73 : decode cX12_split 73 = .ok (.if_icmp .ne 7, 3) := by decide +kernel
theorem dX12_split_76 : decode cX12_split 76 = .ok (.iconst 1, 1) := by decide +kernel
theorem dX12_split_77 : decode cX12_split 77 = .ok (.goto 61, 3) := by decide +kernel
theorem dX12_split_80 : decode cX12_split 80 = .ok (.iconst 0, 1) := by decide +kernel
theorem dX12_split_81 : decode cX12_split 81 = .ok (.goto 57, 3) := by decide +kernel
theorem dX12_split_84 : decode cX12_split 84 = .ok (.iload_n 2, 1) := by decide +kernel
theorem dX12_split_85 : decode cX12_split 85 = .ok (.iconst 1, 1) := by decide +kernel
theorem dX12_split_86 : decode cX12_split 86 = .ok (.if_icmp .ne 23, 3) := by decide +kernel
theorem dX12_split_89 : decode cX12_split 89 = .ok (.iload 5, 2) := by decide +kernel
theorem dX12_split_91 : decode cX12_split 91 = .ok (.iconst 2, 1) := by decide +kernel
theorem dX12_split_92 : decode cX12_split 92 = .ok (.if_icmp .eq 9, 3) := by decide +kernel
theorem dX12_split_95 : decode cX12_split 95 = .ok (.iload 5, 2) := by decide +kernel
theorem dX12_split_97 : decode cX12_split 97 = .ok (.iconst 4, 1) := by decide +kernel
theorem dX12_split_98 : decode cX12_split 98 = .ok (.if_icmp .ne 7, 3) := by decide +kernel
theorem dX12_split_101 : decode cX12_split 101 = .ok (.iconst 1, 1) := by decide +kernel
theorem dX12_split_102 : decode cX12_split 102 = .ok (.goto 36, 3) := by decide +kernel
theorem dX12_split_105 : decode cX12_split 105 = .ok (.iconst 0, 1) := by decide +kernel
theorem dX12_split_106 : decode cX12_split 106 = .ok (.goto 32, 3) := by decide +kernel
theorem dX12_split_109 : decode cX12_split 109 = .ok (.iload_n 2, 1) := by decide +kernel
theorem dX12_split_110 : decode cX12_split 110 = .ok (.iconst 2, 1) := by decide +kernel
theorem dX12_split_111 : decode cX12_split 111 = .ok (.if_icmp .ne 16, 3) := by decide +kernel
theorem dX12_split_114 : decode cX12_split 114 = .ok (.iload 5, 2) := by decide +kernel
theorem dX12_split_116 : decode cX12_split 116 = .ok (.ifCond .ne 7, 3) := by decide +kernel
theorem dX12_split_119 : decode cX12_split 119 = .ok (.iconst 1, 1) := by decide +kernel
theorem dX12_split_120 : decode cX12_split 120 = .ok (.goto 18, 3) := by decide +kernel
theorem dX12_split_123 : decode cX12_split 123 = .ok (.iconst 0, 1) := by decide +kernel
theorem dX12_split_124 : decode cX12_split 124 = .ok (.goto 14, 3) := by decide +kernel
theorem dX12_split_127 : decode cX12_split 127 = .ok (.iload 5, 2) := by decide +kernel
theorem dX12_split_129 : decode cX12_split 129 = .ok (.iconst 2, 1) := by decide +kernel
theorem dX12_split_130 : decode cX12_split 130 = .ok (.if_icmp .le 7, 3) := by decide +kernel
theorem dX12_split_133 : decode cX12_split 133 = .ok (.iconst 1, 1) := by decide +kernel
theorem dX12_split_134 : decode cX12_split 134 = .ok (.goto 4, 3) := by decide +kernel
theorem dX12_split_137 : decode cX12_split 137 = .ok (.iconst 0, 1) := by decide +kernel
theorem dX12_split_138 : decode cX12_split 138 = .ok (.invokestatic 319, 3) := by decide +kernel
theorem dX12_split_141 : decode cX12_split 141 = .ok (.iadd, 1) := by decide +kernel
theorem dX12_split_142 : decode cX12_split 142 = .ok (.istore_n 3, 1) := by decide +kernel
theorem dX12_split_143 : decode cX12_split 143 = .ok (.iinc 4 1, 3) := by decide +kernel
theorem dX12_split_146 : decode cX12_split 146 = .ok (.goto (-122), 3) := by decide +kernel
theorem dX12_split_149 : decode cX12_split 149 = .ok (.iload_n 3, 1) := by decide +kernel
theorem dX12_split_150 : decode cX12_split 150 = .ok (.ireturn, 1) := by decide +kernel
theorem dX12_till_0 : decode cX12_till 0 = .ok (.iload_n 1, 1) := by decide +kernel
theorem dX12_till_1 : decode cX12_till 1 = .ok (.istore_n 3, 1) := by decide +kernel
theorem dX12_till_2 : decode cX12_till 2 = .ok (.iconst 0, 1) := by decide +kernel
theorem dX12_till_3 : decode cX12_till 3 = .ok (.istore 4, 2) := by decide +kernel
theorem dX12_till_5 : decode cX12_till 5 = .ok (.iconst 1, 1) := by decide +kernel
theorem dX12_till_6 : decode cX12_till 6 = .ok (.istore 5, 2) := by decide +kernel
theorem dX12_till_8 : decode cX12_till 8 = .ok (.iconst 0, 1) := by decide +kernel
theorem dX12_till_9 : decode cX12_till 9 = .ok (.istore 6, 2) := by decide +kernel
theorem dX12_till_11 : decode cX12_till 11 = .ok (.iload 6, 2) := by decide +kernel
theorem dX12_till_13 : decode cX12_till 13 = .ok (.aload_n 0, 1) := by decide +kernel
theorem dX12_till_14 : decode cX12_till 14 = .ok (.getfield 282, 3) := by decide +kernel
theorem dX12_till_17 : decode cX12_till 17 = .ok (.if_icmp .ge 54, 3) := by decide +kernel
theorem dX12_till_20 : decode cX12_till 20 = .ok (.iload_n 3, 1) := by decide +kernel
theorem dX12_till_21 : decode cX12_till 21 = .ok (.bipush 9, 2) := by decide +kernel
theorem dX12_till_23 : decode cX12_till 23 = .ok (.irem, 1) := by decide +kernel
theorem dX12_till_24 : decode cX12_till 24 = .ok (.istore 7, 2) := by decide +kernel
theorem dX12_till_26 : decode cX12_till 26 = .ok (.iload_n 3, 1) := by decide +kernel
theorem dX12_till_27 : decode cX12_till 27 = .ok (.bipush 9, 2) := by decide +kernel
theorem dX12_till_29 : decode cX12_till 29 = .ok (.idiv, 1) := by decide +kernel
theorem dX12_till_30 : decode cX12_till 30 = .ok (.istore_n 3, 1) := by decide +kernel
theorem dX12_till_31 : decode cX12_till 31 = .ok (.iload 4, 2) := by decide +kernel
theorem dX12_till_33 : decode cX12_till 33 = .ok (.iload 7, 2) := by decide +kernel
theorem dX12_till_35 : decode cX12_till 35 = .ok (.ifCond .le 19, 3) := by decide +kernel
theorem dX12_till_38 : decode cX12_till 38 = .ok (.iload 7, 2) := by decide +kernel
theorem dX12_till_40 : decode cX12_till 40 = .ok (.iconst 1, 1) := by decide +kernel
theorem dX12_till_41 : decode cX12_till 41 = .ok (.isub, 1) := by decide +kernel
theorem dX12_till_42 : decode cX12_till 42 = .ok (.iload_n 2, 1) := by decide +kernel
theorem dX12_till_43 : decode cX12_till 43 = .ok (.if_icmp .gt 11, 3) := by decide +kernel
theorem dX12_till_46 : decode cX12_till 46 = .ok (.iload 7, 2) := by decide +kernel
theorem dX12_till_48 : decode cX12_till 48 = .ok (.iload 5, 2) := by decide +kernel
theorem dX12_till_50 : decode cX12_till 50 = .ok (.imul, 1) := by decide +kernel
theorem dX12_till_51 : decode cX12_till 51 = .ok (.goto 4, 3) := by decide +kernel
theorem dX12_till_54 : decode cX12_till 54 = .ok (.iconst 0, 1) := by decide +kernel
theorem dX12_till_55 : decode cX12_till 55 = .ok (.iadd, 1) := by decide +kernel
theorem dX12_till_56 : decode cX12_till 56 = .ok (.istore 4, 2) := by decide +kernel
theorem dX12_till_58 : decode cX12_till 58 = .ok (.iload 5, 2) := by decide +kernel
theorem dX12_till_60 : decode cX12_till 60 = .ok (.bipush 9, 2) := by decide +kernel
theorem dX12_till_62 : decode cX12_till 62 = .ok (.imul, 1) := by decide +kernel
theorem dX12_till_63 : decode cX12_till 63 = .ok (.istore 5, 2) := by decide +kernel
theorem dX12_till_65 : decode cX12_till 65 = .ok (.iinc 6 1, 3) := by decide +kernel
theorem dX12_till_68 : decode cX12_till 68 = .ok (.goto (-57), 3) := by decide +kernel
theorem dX12_till_71 : decode cX12_till 71 = .ok (.iload 4, 2) := by decide +kernel
theorem dX12_till_73 : decode cX12_till 73 = .ok (.ireturn, 1) := by decide +kernel
theorem dX12_begins_0 : decode cX12_begins 0 = .ok (.iconst 0, 1) := by decide +kernel
theorem dX12_begins_1 : decode cX12_begins 1 = .ok (.istore_n 3, 1) := by decide +kernel
theorem dX12_begins_2 : decode cX12_begins 2 = .ok (.iload_n 3, 1) := by decide +kernel
theorem dX12_begins_3 : decode cX12_begins 3 = .ok (.aload_n 0, 1) := by decide +kernel
theorem dX12_begins_4 : decode cX12_begins 4 = .ok (.getfield 329, 3) := by decide +kernel
theorem dX12_begins_7 : decode cX12_begins 7 = .ok (.if_icmp .ge 18, 3) := by decide +kernel
theorem dX12_begins_10 : decode cX12_begins 10 = .ok (.aload_n 0, 1) := by decide +kernel
theorem dX12_begins_11 : decode cX12_begins 11 = .ok (.getfield 97, 3) := by decide +kernel
theorem dX12_begins_14 : decode cX12_begins 14 = .ok (.iload_n 3, 1) := by decide +kernel
theorem dX12_begins_15 : decode cX12_begins 15 = .ok (.sipush (-5000), 3) := by decide +kernel
theorem dX12_begins_18 : decode cX12_begins 18 = .ok (.iastore, 1) := by decide +kernel
theorem dX12_begins_19 : decode cX12_begins 19 = .ok (.iinc 3 1, 3) := by decide +kernel
theorem dX12_begins_22 : decode cX12_begins 22 = .ok (.goto (-20), 3) := by decide +kernel
theorem dX12_begins_25 : decode cX12_begins 25 = .ok (.iconst 0, 1) := by decide +kernel
theorem dX12_begins_26 : decode cX12_begins 26 = .ok (.istore_n 3, 1) := by decide +kernel
theorem dX12_begins_27 : decode cX12_begins 27 = .ok (.iload_n 3, 1) := by decide +kernel
theorem dX12_begins_28 : decode cX12_begins 28 = .ok (.aload_n 0, 1) := by decide +kernel
theorem dX12_begins_29 : decode cX12_begins 29 = .ok (.getfield 329, 3) := by decide +kernel
theorem dX12_begins_32 : decode cX12_begins 32 = .ok (.if_icmp .ge 76, 3) := by decide +kernel
theorem dX12_begins_35 : decode cX12_begins 35 = .ok (.aload_n 0, 1) := by decide +kernel
theorem dX12_begins_36 : decode cX12_begins 36 = .ok (.iload_n 3, 1) := by decide +kernel
theorem dX12_begins_37 : decode cX12_begins 37 = .ok (.invokevirtual 342, 3) := by decide +kernel
theorem dX12_begins_40 : decode cX12_begins 40 = .ok (.ifCond .ne 6, 3) := by decide +kernel
theorem dX12_begins_43 : decode cX12_begins 43 = .ok (.goto 59, 3) := by decide +kernel
theorem dX12_begins_46 : decode cX12_begins 46 = .ok (.aload_n 0, 1) := by decide +kernel
theorem dX12_begins_47 : decode cX12_begins 47 = .ok (.iload_n 3, 1) := by decide +kernel
theorem dX12_begins_48 : decode cX12_begins 48 = .ok (.iload_n 2, 1) := by decide +kernel
theorem dX12_begins_49 : decode cX12_begins 49 = .ok (.invokevirtual 375, 3) := by decide +kernel
theorem dX12_begins_52 : decode cX12_begins 52 = .ok (.istore 4, 2) := by decide +kernel
theorem dX12_begins_54 : decode cX12_begins 54 = .ok (.aload_n 0, 1) := by decide +kernel
theorem dX12_begins_55 : decode cX12_begins 55 = .ok (.iload_n 1, 1) := by decide +kernel
theorem dX12_begins_56 : decode cX12_begins 56 = .ok (.iload_n 3, 1) := by decide +kernel
theorem dX12_begins_57 : decode cX12_begins 57 = .ok (.invokevirtual 364, 3) := by decide +kernel
theorem dX12_begins_60 : decode cX12_begins 60 = .ok (.istore 5, 2) := by decide +kernel
theorem dX12_begins_62 : decode cX12_begins 62 = .ok (.aload_n 0, 1) := by decide +kernel
theorem dX12_begins_63 : decode cX12_begins 63 = .ok (.getfield 97, 3) := by decide +kernel
theorem dX12_begins_66 : decode cX12_begins 66 = .ok (.iload 4, 2) := by decide +kernel
theorem dX12_begins_68 : decode cX12_begins 68 = .ok (.aload_n 0, 1) := by decide +kernel
theorem dX12_begins_69 : decode cX12_begins 69 = .ok (.getfield 97, 3) := by decide +kernel
theorem dX12_begins_72 : decode cX12_begins 72 = .ok (.iload 4, 2) := by decide +kernel
theorem dX12_begins_74 : decode cX12_begins 74 = .ok (.iaload, 1) := by decide +kernel
theorem dX12_begins_75 : decode cX12_begins 75 = .ok (.sipush (-5000), 3) := by decide +kernel
theorem dX12_begins_78 : decode cX12_begins 78 = .ok (.if_icmp .eq 15, 3) := by decide +kernel
theorem dX12_begins_81 : decode cX12_begins 81 = .ok (.aload_n 0, 1) := by decide +kernel
theorem dX12_begins_82 : decode cX12_begins 82 = .ok (.getfield 97, 3) := by decide +kernel
theorem dX12_begins_85 : decode cX12_begins 85 = .ok (.iload 4, 2) := by decide +kernel
theorem dX12_begins_87 : decode cX12_begins 87 = .ok (.iaload, 1) := by decide +kernel
theorem dX12_begins_88 : decode cX12_begins 88 = .ok (.iload 5, 2) := by decide +kernel
theorem dX12_begins_90 : decode cX12_begins 90 = .ok (.if_icmp .ne 8, 3) := by decide +kernel
theorem dX12_begins_93 : decode cX12_begins 93 = .ok (.iload 5, 2) := by decide +kernel
theorem dX12_begins_95 : decode cX12_begins 95 = .ok (.goto 6, 3) := by decide +kernel
theorem dX12_begins_98 : decode cX12_begins 98 = .ok (.sipush 5000, 3) := by decide +kernel
theorem dX12_begins_101 : decode cX12_begins 101 = .ok (.iastore, 1) := by decide +kernel
theorem dX12_begins_102 : decode cX12_begins 102 = .ok (.iinc 3 1, 3) := by decide +kernel
theorem dX12_begins_105 : decode cX12_begins 105 = .ok (.goto (-78), 3) := by decide +kernel
theorem dX12_begins_108 : decode cX12_begins 108 = .ok (.return_, 1) := by decide +kernel
theorem dX12_when_0 : decode cX12_when 0 = .ok (.aload_n 0, 1) := by decide +kernel
theorem dX12_when_1 : decode cX12_when 1 = .ok (.iload_n 1, 1) := by decide +kernel
theorem dX12_when_2 : decode cX12_when 2 = .ok (.invokevirtual 361, 3) := by decide +kernel
theorem dX12_when_5 : decode cX12_when 5 = .ok (.ifCond .eq 19, 3) := by decide +kernel
theorem dX12_when_8 : decode cX12_when 8 = .ok (.aload_n 0, 1) := by decide +kernel
theorem dX12_when_9 : decode cX12_when 9 = .ok (.iload_n 2, 1) := by decide +kernel
theorem dX12_when_10 : decode cX12_when 10 = .ok (.invokevirtual 358, 3) := by decide +kernel
theorem dX12_when_13 : decode cX12_when 13 = .ok (.ifCond .eq 11, 3) := by decide +kernel
theorem dX12_when_16 : decode cX12_when 16 = .ok (.aload_n 0, 1) := by decide +kernel
theorem dX12_when_17 : decode cX12_when 17 = .ok (.iload_n 2, 1) := by decide +kernel
theorem dX12_when_18 : decode cX12_when 18 = .ok (.invokevirtual 342, 3) := by decide +kernel
theorem dX12_when_21 : decode cX12_when 21 = .ok (.ifCond .ne 5, 3) := by decide +kernel
theorem dX12_when_24 : decode cX12_when 24 = .ok (.iconst (-1), 1) := by decide +kernel
theorem dX12_when_25 : decode cX12_when 25 = .ok (.ireturn, 1) := by decide +kernel
theorem dX12_when_26 : decode cX12_when 26 = .ok (.iconst 0, 1) := by decide +kernel
theorem dX12_when_27 : decode cX12_when 27 = .ok (.istore_n 3, 1) := by decide +kernel
theorem dX12_when_28 : decode cX12_when 28 = .ok (.iload_n 3, 1) := by decide +kernel
theorem dX12_when_29 : decode cX12_when 29 = .ok (.bipush 7, 2) := by decide +kernel
theorem dX12_when_31 : decode cX12_when 31 = .ok (.if_icmp .ge 34, 3) := by decide +kernel
theorem dX12_when_34 : decode cX12_when 34 = .ok (.aload_n 0, 1) := by decide +kernel
theorem dX12_when_35 : decode cX12_when 35 = .ok (.iload_n 1, 1) := by decide +kernel
theorem dX12_when_36 : decode cX12_when 36 = .ok (.iload_n 3, 1) := by decide +kernel
theorem dX12_when_37 : decode cX12_when 37 = .ok (.invokevirtual 378, 3) := by decide +kernel
theorem dX12_when_40 : decode cX12_when 40 = .ok (.aload_n 0, 1) := by decide +kernel
theorem dX12_when_41 : decode cX12_when 41 = .ok (.getfield 97, 3) := by decide +kernel
theorem dX12_when_44 : decode cX12_when 44 = .ok (.aload_n 0, 1) := by decide +kernel
theorem dX12_when_45 : decode cX12_when 45 = .ok (.iload_n 2, 1) := by decide +kernel
theorem dX12_when_46 : decode cX12_when 46 = .ok (.iload_n 3, 1) := by decide +kernel
theorem dX12_when_47 : decode cX12_when 47 = .ok (.invokevirtual 375, 3) := by decide +kernel
theorem dX12_when_50 : decode cX12_when 50 = .ok (.iaload, 1) := by decide +kernel
theorem dX12_when_51 : decode cX12_when 51 = .ok (.sipush 5000, 3) := by decide +kernel
theorem dX12_when_54 : decode cX12_when 54 = .ok (.if_icmp .eq 5, 3) := by decide +kernel
theorem dX12_when_57 : decode cX12_when 57 = .ok (.iload_n 3, 1) := by decide +kernel
theorem dX12_when_58 : decode cX12_when 58 = .ok (.ireturn, 1) := by decide +kernel
theorem dX12_when_59 : decode cX12_when 59 = .ok (.iinc 3 1, 3) := by decide +kernel
theorem dX12_when_62 : decode cX12_when 62 = .ok (.goto (-34), 3) := by decide +kernel
theorem dX12_when_65 : decode cX12_when 65 = .ok (.bipush 7, 2) := by decide +kernel
theorem dX12_when_67 : decode cX12_when 67 = .ok (.ireturn, 1) := by decide +kernel
theorem dX12_latest_0 : decode cX12_latest 0 = .ok (.aload_n 0, 1) := by decide +kernel
theorem dX12_latest_1 : decode cX12_latest 1 = .ok (.iload_n 1, 1) := by decide +kernel
theorem dX12_latest_2 : decode cX12_latest 2 = .ok (.invokevirtual 361, 3) := by decide +kernel
theorem dX12_latest_5 : decode cX12_latest 5 = .ok (.ifCond .ne 5, 3) := by decide +kernel
theorem dX12_latest_8 : decode cX12_latest 8 = .ok (.iconst (-1), 1) := by decide +kernel
theorem dX12_latest_9 : decode cX12_latest 9 = .ok (.ireturn, 1) := by decide +kernel
theorem dX12_latest_10 : decode cX12_latest 10 = .ok (.bipush 6, 2) := by decide +kernel
theorem dX12_latest_12 : decode cX12_latest 12 = .ok (.istore_n 2, 1) := by decide +kernel
theorem dX12_latest_13 : decode cX12_latest 13 = .ok (.iload_n 2, 1) := by decide +kernel
theorem dX12_latest_14 : decode cX12_latest 14 = .ok (.ifCond .lt 60, 3) := by decide +kernel
theorem dX12_latest_17 : decode cX12_latest 17 = .ok (.aload_n 0, 1) := by decide +kernel
theorem dX12_latest_18 : decode cX12_latest 18 = .ok (.iload_n 1, 1) := by decide +kernel
theorem dX12_latest_19 : decode cX12_latest 19 = .ok (.iload_n 2, 1) := by decide +kernel
theorem dX12_latest_20 : decode cX12_latest 20 = .ok (.invokevirtual 378, 3) := by decide +kernel
theorem dX12_latest_23 : decode cX12_latest 23 = .ok (.iconst 0, 1) := by decide +kernel
theorem dX12_latest_24 : decode cX12_latest 24 = .ok (.istore_n 3, 1) := by decide +kernel
theorem dX12_latest_25 : decode cX12_latest 25 = .ok (.iload_n 3, 1) := by decide +kernel
theorem dX12_latest_26 : decode cX12_latest 26 = .ok (.aload_n 0, 1) := by decide +kernel
theorem dX12_latest_27 : decode cX12_latest 27 = .ok (.getfield 329, 3) := by decide +kernel
theorem dX12_latest_30 : decode cX12_latest 30 = .ok (.if_icmp .ge 38, 3) := by decide +kernel
theorem dX12_latest_33 : decode cX12_latest 33 = .ok (.aload_n 0, 1) := by decide +kernel
theorem dX12_latest_34 : decode cX12_latest 34 = .ok (.iload_n 3, 1) := by decide +kernel
theorem dX12_latest_35 : decode cX12_latest 35 = .ok (.invokevirtual 348, 3) := by decide +kernel
theorem dX12_latest_38 : decode cX12_latest 38 = .ok (.ifCond .eq 24, 3) := by decide +kernel
theorem dX12_latest_41 : decode cX12_latest 41 = .ok (.aload_n 0, 1) := by decide +kernel
theorem dX12_latest_42 : decode cX12_latest 42 = .ok (.getfield 97, 3) := by decide +kernel
theorem dX12_latest_45 : decode cX12_latest 45 = .ok (.aload_n 0, 1) := by decide +kernel
theorem dX12_latest_46 : decode cX12_latest 46 = .ok (.iload_n 3, 1) := by decide +kernel
theorem dX12_latest_47 : decode cX12_latest 47 = .ok (.iload_n 2, 1) := by decide +kernel
theorem dX12_latest_48 : decode cX12_latest 48 = .ok (.invokevirtual 375, 3) := by decide +kernel
theorem dX12_latest_51 : decode cX12_latest 51 = .ok (.iaload, 1) := by decide +kernel
theorem dX12_latest_52 : decode cX12_latest 52 = .ok (.sipush 5000, 3) := by decide +kernel
theorem dX12_latest_55 : decode cX12_latest 55 = .ok (.if_icmp .ne 7, 3) := by decide +kernel
theorem dX12_latest_58 : decode cX12_latest 58 = .ok (.iload_n 2, 1) := by decide +kernel
theorem dX12_latest_59 : decode cX12_latest 59 = .ok (.iconst 1, 1) := by decide +kernel
theorem dX12_latest_60 : decode cX12_latest 60 = .ok (.iadd, 1) := by decide +kernel
theorem dX12_latest_61 : decode cX12_latest 61 = .ok (.ireturn, 1) := by decide +kernel
theorem dX12_latest_62 : decode cX12_latest 62 = .ok (.iinc 3 1, 3) := by decide +kernel
theorem dX12_latest_65 : decode cX12_latest 65 = .ok (.goto (-40), 3) := by decide +kernel
theorem dX12_latest_68 : decode cX12_latest 68 = .ok (.iinc 2 (-1), 3) := by decide +kernel
theorem dX12_latest_71 : decode cX12_latest 71 = .ok (.goto (-58), 3) := by decide +kernel
theorem dX12_latest_74 : decode cX12_latest 74 = .ok (.iconst 0, 1) := by decide +kernel
theorem dX12_latest_75 : decode cX12_latest 75 = .ok (.ireturn, 1) := by decide +kernel
theorem dX12_only_0 : decode cX12_only 0 = .ok (.iload_n 1, 1) := by decide +kernel
theorem dX12_only_1 : decode cX12_only 1 = .ok (.istore_n 3, 1) := by decide +kernel
theorem dX12_only_2 : decode cX12_only 2 = .ok (.iconst 0, 1) := by decide +kernel
theorem dX12_only_3 : decode cX12_only 3 = .ok (.istore 4, 2) := by decide +kernel
theorem dX12_only_5 : decode cX12_only 5 = .ok (.iconst 1, 1) := by decide +kernel
theorem dX12_only_6 : decode cX12_only 6 = .ok (.istore 5, 2) := by decide +kernel
theorem dX12_only_8 : decode cX12_only 8 = .ok (.iconst 0, 1) := by decide +kernel
theorem dX12_only_9 : decode cX12_only 9 = .ok (.istore 6, 2) := by decide +kernel
theorem dX12_only_11 : decode cX12_only 11 = .ok (.iload 6, 2) := by decide +kernel
theorem dX12_only_13 : decode cX12_only 13 = .ok (.aload_n 0, 1) := by decide +kernel
theorem dX12_only_14 : decode cX12_only 14 = .ok (.getfield 282, 3) := by decide +kernel
theorem dX12_only_17 : decode cX12_only 17 = .ok (.if_icmp .ge 46, 3) := by decide +kernel
theorem dX12_only_20 : decode cX12_only 20 = .ok (.iload 4, 2) := by decide +kernel
theorem dX12_only_22 : decode cX12_only 22 = .ok (.iload_n 2, 1) := by decide +kernel
theorem dX12_only_23 : decode cX12_only 23 = .ok (.iload 6, 2) := by decide +kernel
theorem dX12_only_25 : decode cX12_only 25 = .ok (.invokestatic 345, 3) := by decide +kernel
theorem dX12_only_28 : decode cX12_only 28 = .ok (.ifCond .eq 13, 3) := by decide +kernel
theorem dX12_only_31 : decode cX12_only 31 = .ok (.iload_n 3, 1) := by decide +kernel
theorem dX12_only_32 : decode cX12_only 32 = .ok (.bipush 9, 2) := by decide +kernel
theorem dX12_only_34 : decode cX12_only 34 = .ok (.irem, 1) := by decide +kernel
theorem dX12_only_35 : decode cX12_only 35 = .ok (.iload 5, 2) := by decide +kernel
theorem dX12_only_37 : decode cX12_only 37 = .ok (.imul, 1) := by decide +kernel
theorem dX12_only_38 : decode cX12_only 38 = .ok (.goto 4, 3) := by decide +kernel
theorem dX12_only_41 : decode cX12_only 41 = .ok (.iconst 0, 1) := by decide +kernel
theorem dX12_only_42 : decode cX12_only 42 = .ok (.iadd, 1) := by decide +kernel
theorem dX12_only_43 : decode cX12_only 43 = .ok (.istore 4, 2) := by decide +kernel
theorem dX12_only_45 : decode cX12_only 45 = .ok (.iload_n 3, 1) := by decide +kernel
theorem dX12_only_46 : decode cX12_only 46 = .ok (.bipush 9, 2) := by decide +kernel
theorem dX12_only_48 : decode cX12_only 48 = .ok (.idiv, 1) := by decide +kernel
theorem dX12_only_49 : decode cX12_only 49 = .ok (.istore_n 3, 1) := by decide +kernel
theorem dX12_only_50 : decode cX12_only 50 = .ok (.iload 5, 2) := by decide +kernel
theorem dX12_only_52 : decode cX12_only 52 = .ok (.bipush 9, 2) := by decide +kernel
theorem dX12_only_54 : decode cX12_only 54 = .ok (.imul, 1) := by decide +kernel
theorem dX12_only_55 : decode cX12_only 55 = .ok (.istore 5, 2) := by decide +kernel
theorem dX12_only_57 : decode cX12_only 57 = .ok (.iinc 6 1, 3) := by decide +kernel
theorem dX12_only_60 : decode cX12_only 60 = .ok (.goto (-49), 3) := by decide +kernel
theorem dX12_only_63 : decode cX12_only 63 = .ok (.iload 4, 2) := by decide +kernel
theorem dX12_only_65 : decode cX12_only 65 = .ok (.ireturn, 1) := by decide +kernel
theorem dX12_hangsOn_0 : decode cX12_hangsOn 0 = .ok (.iconst 0, 1) := by decide +kernel
theorem dX12_hangsOn_1 : decode cX12_hangsOn 1 = .ok (.istore_n 3, 1) := by decide +kernel
theorem dX12_hangsOn_2 : decode cX12_hangsOn 2 = .ok (.iload_n 3, 1) := by decide +kernel
theorem dX12_hangsOn_3 : decode cX12_hangsOn 3 = .ok (.aload_n 0, 1) := by decide +kernel
theorem dX12_hangsOn_4 : decode cX12_hangsOn 4 = .ok (.getfield 329, 3) := by decide +kernel
theorem dX12_hangsOn_7 : decode cX12_hangsOn 7 = .ok (.if_icmp .ge 18, 3) := by decide +kernel
theorem dX12_hangsOn_10 : decode cX12_hangsOn 10 = .ok (.aload_n 0, 1) := by decide +kernel
theorem dX12_hangsOn_11 : decode cX12_hangsOn 11 = .ok (.getfield 97, 3) := by decide +kernel
theorem dX12_hangsOn_14 : decode cX12_hangsOn 14 = .ok (.iload_n 3, 1) := by decide +kernel
theorem dX12_hangsOn_15 : decode cX12_hangsOn 15 = .ok (.sipush (-5000), 3) := by decide +kernel
theorem dX12_hangsOn_18 : decode cX12_hangsOn 18 = .ok (.iastore, 1) := by decide +kernel
theorem dX12_hangsOn_19 : decode cX12_hangsOn 19 = .ok (.iinc 3 1, 3) := by decide +kernel
theorem dX12_hangsOn_22 : decode cX12_hangsOn 22 = .ok (.goto (-20), 3) := by decide +kernel
theorem dX12_hangsOn_25 : decode cX12_hangsOn 25 = .ok (.iconst 0, 1) := by decide +kernel
theorem dX12_hangsOn_26 : decode cX12_hangsOn 26 = .ok (.istore_n 3, 1) := by decide +kernel
theorem dX12_hangsOn_27 : decode cX12_hangsOn 27 = .ok (.iload_n 3, 1) := by decide +kernel
theorem dX12_hangsOn_28 : decode cX12_hangsOn 28 = .ok (.aload_n 0, 1) := by decide +kernel
theorem dX12_hangsOn_29 : decode cX12_hangsOn 29 = .ok (.getfield 329, 3) := by decide +kernel
theorem dX12_hangsOn_32 : decode cX12_hangsOn 32 = .ok (.if_icmp .ge 72, 3) := by decide +kernel
theorem dX12_hangsOn_35 : decode cX12_hangsOn 35 = .ok (.aload_n 0, 1) := by decide +kernel
theorem dX12_hangsOn_36 : decode cX12_hangsOn 36 = .ok (.iload_n 3, 1) := by decide +kernel
theorem dX12_hangsOn_37 : decode cX12_hangsOn 37 = .ok (.invokevirtual 348, 3) := by decide +kernel
theorem dX12_hangsOn_40 : decode cX12_hangsOn 40 = .ok (.ifCond .ne 6, 3) := by decide +kernel
theorem dX12_hangsOn_43 : decode cX12_hangsOn 43 = .ok (.goto 55, 3) := by decide +kernel
theorem dX12_hangsOn_46 : decode cX12_hangsOn 46 = .ok (.aload_n 0, 1) := by decide +kernel
theorem dX12_hangsOn_47 : decode cX12_hangsOn 47 = .ok (.iload_n 3, 1) := by decide +kernel
theorem dX12_hangsOn_48 : decode cX12_hangsOn 48 = .ok (.iload_n 2, 1) := by decide +kernel
theorem dX12_hangsOn_49 : decode cX12_hangsOn 49 = .ok (.invokevirtual 381, 3) := by decide +kernel
theorem dX12_hangsOn_52 : decode cX12_hangsOn 52 = .ok (.istore 4, 2) := by decide +kernel
theorem dX12_hangsOn_54 : decode cX12_hangsOn 54 = .ok (.aload_n 0, 1) := by decide +kernel
theorem dX12_hangsOn_55 : decode cX12_hangsOn 55 = .ok (.iload_n 1, 1) := by decide +kernel
theorem dX12_hangsOn_56 : decode cX12_hangsOn 56 = .ok (.iload_n 3, 1) := by decide +kernel
theorem dX12_hangsOn_57 : decode cX12_hangsOn 57 = .ok (.invokevirtual 364, 3) := by decide +kernel
theorem dX12_hangsOn_60 : decode cX12_hangsOn 60 = .ok (.istore 5, 2) := by decide +kernel
theorem dX12_hangsOn_62 : decode cX12_hangsOn 62 = .ok (.aload_n 0, 1) := by decide +kernel
theorem dX12_hangsOn_63 : decode cX12_hangsOn 63 = .ok (.getfield 97, 3) := by decide +kernel
theorem dX12_hangsOn_66 : decode cX12_hangsOn 66 = .ok (.iload 4, 2) := by decide +kernel
theorem dX12_hangsOn_68 : decode cX12_hangsOn 68 = .ok (.iaload, 1) := by decide +kernel
theorem dX12_hangsOn_69 : decode cX12_hangsOn 69 = .ok (.sipush (-5000), 3) := by decide +kernel
theorem dX12_hangsOn_72 : decode cX12_hangsOn 72 = .ok (.if_icmp .eq 17, 3) := by decide +kernel
theorem dX12_hangsOn_75 : decode cX12_hangsOn 75 = .ok (.aload_n 0, 1) := by decide +kernel
theorem dX12_hangsOn_76 : decode cX12_hangsOn 76 = .ok (.getfield 97, 3) := by decide +kernel
theorem dX12_hangsOn_79 : decode cX12_hangsOn 79 = .ok (.iload 4, 2) := by decide +kernel
theorem dX12_hangsOn_81 : decode cX12_hangsOn 81 = .ok (.iaload, 1) := by decide +kernel
theorem dX12_hangsOn_82 : decode cX12_hangsOn 82 = .ok (.iload 5, 2) := by decide +kernel
theorem dX12_hangsOn_84 : decode cX12_hangsOn 84 = .ok (.if_icmp .eq 5, 3) := by decide +kernel
theorem dX12_hangsOn_87 : decode cX12_hangsOn 87 = .ok (.iconst 0, 1) := by decide +kernel
theorem dX12_hangsOn_88 : decode cX12_hangsOn 88 = .ok (.ireturn, 1) := by decide +kernel
theorem dX12_hangsOn_89 : decode cX12_hangsOn 89 = .ok (.aload_n 0, 1) := by decide +kernel
theorem dX12_hangsOn_90 : decode cX12_hangsOn 90 = .ok (.getfield 97, 3) := by decide +kernel
theorem dX12_hangsOn_93 : decode cX12_hangsOn 93 = .ok (.iload 4, 2) := by decide +kernel
theorem dX12_hangsOn_95 : decode cX12_hangsOn 95 = .ok (.iload 5, 2) := by decide +kernel
theorem dX12_hangsOn_97 : decode cX12_hangsOn 97 = .ok (.iastore, 1) := by decide +kernel
theorem dX12_hangsOn_98 : decode cX12_hangsOn 98 = .ok (.iinc 3 1, 3) := by decide +kernel
theorem dX12_hangsOn_101 : decode cX12_hangsOn 101 = .ok (.goto (-74), 3) := by decide +kernel
theorem dX12_hangsOn_104 : decode cX12_hangsOn 104 = .ok (.iconst 1, 1) := by decide +kernel
theorem dX12_hangsOn_105 : decode cX12_hangsOn 105 = .ok (.ireturn, 1) := by decide +kernel
theorem dX12_hang_0 : decode cX12_hang 0 = .ok (.aload_n 0, 1) := by decide +kernel
theorem dX12_hang_1 : decode cX12_hang 1 = .ok (.iload_n 1, 1) := by decide +kernel
theorem dX12_hang_2 : decode cX12_hang 2 = .ok (.invokevirtual 361, 3) := by decide +kernel
theorem dX12_hang_5 : decode cX12_hang 5 = .ok (.ifCond .ne 5, 3) := by decide +kernel
theorem dX12_hang_8 : decode cX12_hang 8 = .ok (.iconst (-1), 1) := by decide +kernel
theorem dX12_hang_9 : decode cX12_hang 9 = .ok (.ireturn, 1) := by decide +kernel
theorem dX12_hang_10 : decode cX12_hang 10 = .ok (.iconst 1, 1) := by decide +kernel
theorem dX12_hang_11 : decode cX12_hang 11 = .ok (.aload_n 0, 1) := by decide +kernel
theorem dX12_hang_12 : decode cX12_hang 12 = .ok (.getfield 282, 3) := by decide +kernel
theorem dX12_hang_15 : decode cX12_hang 15 = .ok (.ishl, 1) := by decide +kernel
theorem dX12_hang_16 : decode cX12_hang 16 = .ok (.iconst 1, 1) := by decide +kernel
theorem dX12_hang_17 : decode cX12_hang 17 = .ok (.isub, 1) := by decide +kernel
theorem dX12_hang_18 : decode cX12_hang 18 = .ok (.istore_n 2, 1) := by decide +kernel
theorem dX12_hang_19 : decode cX12_hang 19 = .ok (.iconst 0, 1) := by decide +kernel
theorem dX12_hang_20 : decode cX12_hang 20 = .ok (.istore_n 3, 1) := by decide +kernel
theorem dX12_hang_21 : decode cX12_hang 21 = .ok (.iload_n 3, 1) := by decide +kernel
theorem dX12_hang_22 : decode cX12_hang 22 = .ok (.iconst 1, 1) := by decide +kernel
theorem dX12_hang_23 : decode cX12_hang 23 = .ok (.aload_n 0, 1) := by decide +kernel
theorem dX12_hang_24 : decode cX12_hang 24 = .ok (.getfield 282, 3) := by decide +kernel
theorem dX12_hang_27 : decode cX12_hang 27 = .ok (.ishl, 1) := by decide +kernel
theorem dX12_hang_28 : decode cX12_hang 28 = .ok (.if_icmp .ge 31, 3) := by decide +kernel
theorem dX12_hang_31 : decode cX12_hang 31 = .ok (.iload_n 3, 1) := by decide +kernel
theorem dX12_hang_32 : decode cX12_hang 32 = .ok (.invokestatic 384, 3) := by decide +kernel
theorem dX12_hang_35 : decode cX12_hang 35 = .ok (.iload_n 2, 1) := by decide +kernel
theorem dX12_hang_36 : decode cX12_hang 36 = .ok (.invokestatic 384, 3) := by decide +kernel
theorem dX12_hang_39 : decode cX12_hang 39 = .ok (.if_icmp .ge 14, 3) := by decide +kernel
theorem dX12_hang_42 : decode cX12_hang 42 = .ok (.aload_n 0, 1) := by decide +kernel
theorem dX12_hang_43 : decode cX12_hang 43 = .ok (.iload_n 1, 1) := by decide +kernel
theorem dX12_hang_44 : decode cX12_hang 44 = .ok (.iload_n 3, 1) := by decide +kernel
theorem dX12_hang_45 : decode cX12_hang 45 = .ok (.invokevirtual 387, 3) := by decide +kernel
theorem dX12_hang_48 : decode cX12_hang 48 = .ok (.ifCond .eq 5, 3) := by decide +kernel
theorem dX12_hang_51 : decode cX12_hang 51 = .ok (.iload_n 3, 1) := by decide +kernel
theorem dX12_hang_52 : decode cX12_hang 52 = .ok (.istore_n 2, 1) := by decide +kernel
theorem dX12_hang_53 : decode cX12_hang 53 = .ok (.iinc 3 1, 3) := by decide +kernel
theorem dX12_hang_56 : decode cX12_hang 56 = .ok (.goto (-35), 3) := by decide +kernel
theorem dX12_hang_59 : decode cX12_hang 59 = .ok (.iload_n 2, 1) := by decide +kernel
theorem dX12_hang_60 : decode cX12_hang 60 = .ok (.ireturn, 1) := by decide +kernel
theorem dX12_same_0 : decode cX12_same 0 = .ok (.aload_n 0, 1) := by decide +kernel
theorem dX12_same_1 : decode cX12_same 1 = .ok (.iload_n 1, 1) := by decide +kernel
theorem dX12_same_2 : decode cX12_same 2 = .ok (.invokevirtual 361, 3) := by decide +kernel
theorem dX12_same_5 : decode cX12_same 5 = .ok (.ifCond .eq 11, 3) := by decide +kernel
theorem dX12_same_8 : decode cX12_same 8 = .ok (.aload_n 0, 1) := by decide +kernel
theorem dX12_same_9 : decode cX12_same 9 = .ok (.iload_n 2, 1) := by decide +kernel
theorem dX12_same_10 : decode cX12_same 10 = .ok (.invokevirtual 361, 3) := by decide +kernel
theorem dX12_same_13 : decode cX12_same 13 = .ok (.ifCond .ne 6, 3) := by decide +kernel
theorem dX12_same_16 : decode cX12_same 16 = .ok (.bipush (-2), 2) := by decide +kernel
theorem dX12_same_18 : decode cX12_same 18 = .ok (.ireturn, 1) := by decide +kernel
theorem dX12_same_19 : decode cX12_same 19 = .ok (.iconst 0, 1) := by decide +kernel
theorem dX12_same_20 : decode cX12_same 20 = .ok (.istore_n 3, 1) := by decide +kernel
theorem dX12_same_21 : decode cX12_same 21 = .ok (.iload_n 3, 1) := by decide +kernel
theorem dX12_same_22 : decode cX12_same 22 = .ok (.aload_n 0, 1) := by decide +kernel
theorem dX12_same_23 : decode cX12_same 23 = .ok (.getfield 329, 3) := by decide +kernel
theorem dX12_same_26 : decode cX12_same 26 = .ok (.if_icmp .ge 34, 3) := by decide +kernel
theorem dX12_same_29 : decode cX12_same 29 = .ok (.aload_n 0, 1) := by decide +kernel
theorem dX12_same_30 : decode cX12_same 30 = .ok (.iload_n 3, 1) := by decide +kernel
theorem dX12_same_31 : decode cX12_same 31 = .ok (.invokevirtual 342, 3) := by decide +kernel
theorem dX12_same_34 : decode cX12_same 34 = .ok (.ifCond .eq 20, 3) := by decide +kernel
theorem dX12_same_37 : decode cX12_same 37 = .ok (.aload_n 0, 1) := by decide +kernel
theorem dX12_same_38 : decode cX12_same 38 = .ok (.iload_n 1, 1) := by decide +kernel
theorem dX12_same_39 : decode cX12_same 39 = .ok (.iload_n 3, 1) := by decide +kernel
theorem dX12_same_40 : decode cX12_same 40 = .ok (.invokevirtual 364, 3) := by decide +kernel
theorem dX12_same_43 : decode cX12_same 43 = .ok (.aload_n 0, 1) := by decide +kernel
theorem dX12_same_44 : decode cX12_same 44 = .ok (.iload_n 2, 1) := by decide +kernel
theorem dX12_same_45 : decode cX12_same 45 = .ok (.iload_n 3, 1) := by decide +kernel
theorem dX12_same_46 : decode cX12_same 46 = .ok (.invokevirtual 364, 3) := by decide +kernel
theorem dX12_same_49 : decode cX12_same 49 = .ok (.if_icmp .eq 5, 3) := by decide +kernel
theorem dX12_same_52 : decode cX12_same 52 = .ok (.iload_n 3, 1) := by decide +kernel
theorem dX12_same_53 : decode cX12_same 53 = .ok (.ireturn, 1) := by decide +kernel
theorem dX12_same_54 : decode cX12_same 54 = .ok (.iinc 3 1, 3) := by decide +kernel
theorem dX12_same_57 : decode cX12_same 57 = .ok (.goto (-36), 3) := by decide +kernel
theorem dX12_same_60 : decode cX12_same 60 = .ok (.iconst (-1), 1) := by decide +kernel
theorem dX12_same_61 : decode cX12_same 61 = .ok (.ireturn, 1) := by decide +kernel
theorem dX12_wager_0 : decode cX12_wager 0 = .ok (.aload_n 0, 1) := by decide +kernel
theorem dX12_wager_1 : decode cX12_wager 1 = .ok (.iload_n 1, 1) := by decide +kernel
theorem dX12_wager_2 : decode cX12_wager 2 = .ok (.invokevirtual 361, 3) := by decide +kernel
theorem dX12_wager_5 : decode cX12_wager 5 = .ok (.ifCond .ne 5, 3) := by decide +kernel
theorem dX12_wager_8 : decode cX12_wager 8 = .ok (.iconst (-1), 1) := by decide +kernel
theorem dX12_wager_9 : decode cX12_wager 9 = .ok (.ireturn, 1) := by decide +kernel
theorem dX12_wager_10 : decode cX12_wager 10 = .ok (.iload_n 2, 1) := by decide +kernel
theorem dX12_wager_11 : decode cX12_wager 11 = .ok (.tableswitch 119 0 5 #[37, 46, 57, 64, 71, 95], 37) := by decide +kernel
theorem dX12_wager_48 : decode cX12_wager 48 = .ok (.aload_n 0, 1) := by decide +kernel
theorem dX12_wager_49 : decode cX12_wager 49 = .ok (.getfield 100, 3) := by decide +kernel
theorem dX12_wager_52 : decode cX12_wager 52 = .ok (.iconst 2, 1) := by decide +kernel
theorem dX12_wager_53 : decode cX12_wager 53 = .ok (.iload_n 1, 1) := by decide +kernel
theorem dX12_wager_54 : decode cX12_wager 54 = .ok (.imul, 1) := by decide +kernel
theorem dX12_wager_55 : decode cX12_wager 55 = .ok (.iaload, 1) := by decide +kernel
theorem dX12_wager_56 : decode cX12_wager 56 = .ok (.ireturn, 1) := by decide +kernel
theorem dX12_wager_57 : decode cX12_wager 57 = .ok (.aload_n 0, 1) := by decide +kernel
theorem dX12_wager_58 : decode cX12_wager 58 = .ok (.getfield 100, 3) := by decide +kernel
theorem dX12_wager_61 : decode cX12_wager 61 = .ok (.iconst 2, 1) := by decide +kernel
theorem dX12_wager_62 : decode cX12_wager 62 = .ok (.iload_n 1, 1) := by decide +kernel
theorem dX12_wager_63 : decode cX12_wager 63 = .ok (.imul, 1) := by decide +kernel
theorem dX12_wager_64 : decode cX12_wager 64 = .ok (.iconst 1, 1) := by decide +kernel
theorem dX12_wager_65 : decode cX12_wager 65 = .ok (.iadd, 1) := by decide +kernel
theorem dX12_wager_66 : decode cX12_wager 66 = .ok (.iaload, 1) := by decide +kernel
theorem dX12_wager_67 : decode cX12_wager 67 = .ok (.ireturn, 1) := by decide +kernel
theorem dX12_wager_68 : decode cX12_wager 68 = .ok (.aload_n 0, 1) := by decide +kernel
theorem dX12_wager_69 : decode cX12_wager 69 = .ok (.getfield 22, 3) := by decide +kernel
theorem dX12_wager_72 : decode cX12_wager 72 = .ok (.iload_n 1, 1) := by decide +kernel
theorem dX12_wager_73 : decode cX12_wager 73 = .ok (.iaload, 1) := by decide +kernel
theorem dX12_wager_74 : decode cX12_wager 74 = .ok (.ireturn, 1) := by decide +kernel
theorem dX12_wager_75 : decode cX12_wager 75 = .ok (.aload_n 0, 1) := by decide +kernel
theorem dX12_wager_76 : decode cX12_wager 76 = .ok (.getfield 25, 3) := by decide +kernel
theorem dX12_wager_79 : decode cX12_wager 79 = .ok (.iload_n 1, 1) := by decide +kernel
theorem dX12_wager_80 : decode cX12_wager 80 = .ok (.iaload, 1) := by decide +kernel
theorem dX12_wager_81 : decode cX12_wager 81 = .ok (.ireturn, 1) := by decide +kernel
theorem dX12_wager_82 : decode cX12_wager 82 = .ok (.aload_n 0, 1) := by decide +kernel
theorem dX12_wager_83 : decode cX12_wager 83 = .ok (.getfield 43, 3) := by decide +kernel
theorem dX12_wager_86 : decode cX12_wager 86 = .ok (.iload_n 1, 1) := by decide +kernel
theorem dX12_wager_87 : decode cX12_wager 87 = .ok (.iaload, 1) := by decide +kernel
theorem dX12_wager_88 : decode cX12_wager 88 = .ok (.aload_n 0, 1) := by decide +kernel
theorem dX12_wager_89 : decode cX12_wager 89 = .ok (.getfield 46, 3) := by decide +kernel
theorem dX12_wager_92 : decode cX12_wager 92 = .ok (.iload_n 1, 1) := by decide +kernel
theorem dX12_wager_93 : decode cX12_wager 93 = .ok (.iaload, 1) := by decide +kernel
theorem dX12_wager_94 : decode cX12_wager 94 = .ok (.if_icmp .ge 7, 3) := by decide +kernel
theorem dX12_wager_97 : decode cX12_wager 97 = .ok (.iconst 1, 1) := by decide +kernel
theorem dX12_wager_98 : decode cX12_wager 98 = .ok (.goto 4, 3) := by decide +kernel
theorem dX12_wager_101 : decode cX12_wager 101 = .ok (.iconst 0, 1) := by decide +kernel
theorem dX12_wager_102 : decode cX12_wager 102 = .ok (.invokestatic 319, 3) := by decide +kernel
theorem dX12_wager_105 : decode cX12_wager 105 = .ok (.ireturn, 1) := by decide +kernel
theorem dX12_wager_106 : decode cX12_wager 106 = .ok (.aload_n 0, 1) := by decide +kernel
theorem dX12_wager_107 : decode cX12_wager 107 = .ok (.getfield 46, 3) := by decide +kernel
theorem dX12_wager_110 : decode cX12_wager 110 = .ok (.iload_n 1, 1) := by decide +kernel
theorem dX12_wager_111 : decode cX12_wager 111 = .ok (.iaload, 1) := by decide +kernel
theorem dX12_wager_112 : decode cX12_wager 112 = .ok (.aload_n 0, 1) := by decide +kernel
theorem dX12_wager_113 : decode cX12_wager 113 = .ok (.getfield 49, 3) := by decide +kernel
theorem dX12_wager_116 : decode cX12_wager 116 = .ok (.iload_n 1, 1) := by decide +kernel
theorem dX12_wager_117 : decode cX12_wager 117 = .ok (.iaload, 1) := by decide +kernel
theorem dX12_wager_118 : decode cX12_wager 118 = .ok (.if_icmp .ge 7, 3) := by decide +kernel
theorem dX12_wager_121 : decode cX12_wager 121 = .ok (.iconst 1, 1) := by decide +kernel
theorem dX12_wager_122 : decode cX12_wager 122 = .ok (.goto 4, 3) := by decide +kernel
theorem dX12_wager_125 : decode cX12_wager 125 = .ok (.iconst 0, 1) := by decide +kernel
theorem dX12_wager_126 : decode cX12_wager 126 = .ok (.invokestatic 319, 3) := by decide +kernel
theorem dX12_wager_129 : decode cX12_wager 129 = .ok (.ireturn, 1) := by decide +kernel
theorem dX12_wager_130 : decode cX12_wager 130 = .ok (.iconst (-1), 1) := by decide +kernel
theorem dX12_wager_131 : decode cX12_wager 131 = .ok (.ireturn, 1) := by decide +kernel
theorem dX12_sell_0 : decode cX12_sell 0 = .ok (.aload_n 0, 1) := by decide +kernel
theorem dX12_sell_1 : decode cX12_sell 1 = .ok (.iload_n 1, 1) := by decide +kernel
theorem dX12_sell_2 : decode cX12_sell 2 = .ok (.invokevirtual 361, 3) := by decide +kernel
theorem dX12_sell_5 : decode cX12_sell 5 = .ok (.ifCond .eq 54, 3) := by decide +kernel
theorem dX12_sell_8 : decode cX12_sell 8 = .ok (.iload_n 2, 1) := by decide +kernel
theorem dX12_sell_9 : decode cX12_sell 9 = .ok (.iconst 0, 1) := by decide +kernel
theorem dX12_sell_10 : decode cX12_sell 10 = .ok (.iconst 1, 1) := by decide +kernel
theorem dX12_sell_11 : decode cX12_sell 11 = .ok (.invokestatic 153, 3) := by decide +kernel
theorem dX12_sell_14 : decode cX12_sell 14 = .ok (.ifCond .eq 45, 3) := by decide +kernel
theorem dX12_sell_17 : decode cX12_sell 17 = .ok (.aload_n 0, 1) := by decide +kernel
theorem dX12_sell_18 : decode cX12_sell 18 = .ok (.iload_n 3, 1) := by decide +kernel
theorem dX12_sell_19 : decode cX12_sell 19 = .ok (.invokevirtual 390, 3) := by decide +kernel
theorem dX12_sell_22 : decode cX12_sell 22 = .ok (.ifCond .eq 37, 3) := by decide +kernel
theorem dX12_sell_25 : decode cX12_sell 25 = .ok (.iload 4, 2) := by decide +kernel
theorem dX12_sell_27 : decode cX12_sell 27 = .ok (.iconst 0, 1) := by decide +kernel
theorem dX12_sell_28 : decode cX12_sell 28 = .ok (.sipush 9999, 3) := by decide +kernel
theorem dX12_sell_31 : decode cX12_sell 31 = .ok (.invokestatic 153, 3) := by decide +kernel
theorem dX12_sell_34 : decode cX12_sell 34 = .ok (.ifCond .eq 25, 3) := by decide +kernel
theorem dX12_sell_37 : decode cX12_sell 37 = .ok (.aload_n 0, 1) := by decide +kernel
theorem dX12_sell_38 : decode cX12_sell 38 = .ok (.getfield 100, 3) := by decide +kernel
theorem dX12_sell_41 : decode cX12_sell 41 = .ok (.iconst 2, 1) := by decide +kernel
theorem dX12_sell_42 : decode cX12_sell 42 = .ok (.iload_n 1, 1) := by decide +kernel
theorem dX12_sell_43 : decode cX12_sell 43 = .ok (.imul, 1) := by decide +kernel
theorem dX12_sell_44 : decode cX12_sell 44 = .ok (.iload_n 2, 1) := by decide +kernel
theorem dX12_sell_45 : decode cX12_sell 45 = .ok (.iadd, 1) := by decide +kernel
theorem dX12_sell_46 : decode cX12_sell 46 = .ok (.iaload, 1) := by decide +kernel
theorem dX12_sell_47 : decode cX12_sell 47 = .ok (.iload_n 3, 1) := by decide +kernel
theorem dX12_sell_48 : decode cX12_sell 48 = .ok (.if_icmp .eq 11, 3) := by decide +kernel
theorem dX12_sell_51 : decode cX12_sell 51 = .ok (.aload_n 0, 1) := by decide +kernel
theorem dX12_sell_52 : decode cX12_sell 52 = .ok (.iload_n 1, 1) := by decide +kernel
theorem dX12_sell_53 : decode cX12_sell 53 = .ok (.invokevirtual 372, 3) := by decide +kernel
theorem dX12_sell_56 : decode cX12_sell 56 = .ok (.ifCond .eq 5, 3) := by decide +kernel
theorem dX12_sell_59 : decode cX12_sell 59 = .ok (.iconst 0, 1) := by decide +kernel
theorem dX12_sell_60 : decode cX12_sell 60 = .ok (.ireturn, 1) := by decide +kernel
theorem dX12_sell_61 : decode cX12_sell 61 = .ok (.aload_n 0, 1) := by decide +kernel
theorem dX12_sell_62 : decode cX12_sell 62 = .ok (.getfield 103, 3) := by decide +kernel
theorem dX12_sell_65 : decode cX12_sell 65 = .ok (.aload_n 0, 1) := by decide +kernel
theorem dX12_sell_66 : decode cX12_sell 66 = .ok (.getfield 100, 3) := by decide +kernel
theorem dX12_sell_69 : decode cX12_sell 69 = .ok (.iconst 2, 1) := by decide +kernel
theorem dX12_sell_70 : decode cX12_sell 70 = .ok (.iload_n 1, 1) := by decide +kernel
theorem dX12_sell_71 : decode cX12_sell 71 = .ok (.imul, 1) := by decide +kernel
theorem dX12_sell_72 : decode cX12_sell 72 = .ok (.iload_n 2, 1) := by decide +kernel
theorem dX12_sell_73 : decode cX12_sell 73 = .ok (.iadd, 1) := by decide +kernel
theorem dX12_sell_74 : decode cX12_sell 74 = .ok (.iaload, 1) := by decide +kernel
theorem dX12_sell_75 : decode cX12_sell 75 = .ok (.dup2, 1) := by decide +kernel
theorem dX12_sell_76 : decode cX12_sell 76 = .ok (.iaload, 1) := by decide +kernel
theorem dX12_sell_77 : decode cX12_sell 77 = .ok (.iload 4, 2) := by decide +kernel
theorem dX12_sell_79 : decode cX12_sell 79 = .ok (.iadd, 1) := by decide +kernel
theorem dX12_sell_80 : decode cX12_sell 80 = .ok (.iastore, 1) := by decide +kernel
theorem dX12_sell_81 : decode cX12_sell 81 = .ok (.aload_n 0, 1) := by decide +kernel
theorem dX12_sell_82 : decode cX12_sell 82 = .ok (.getfield 103, 3) := by decide +kernel
theorem dX12_sell_85 : decode cX12_sell 85 = .ok (.iload_n 3, 1) := by decide +kernel
theorem dX12_sell_86 : decode cX12_sell 86 = .ok (.dup2, 1) := by decide +kernel
theorem dX12_sell_87 : decode cX12_sell 87 = .ok (.iaload, 1) := by decide +kernel
theorem dX12_sell_88 : decode cX12_sell 88 = .ok (.iload 4, 2) := by decide +kernel
theorem dX12_sell_90 : decode cX12_sell 90 = .ok (.isub, 1) := by decide +kernel
theorem dX12_sell_91 : decode cX12_sell 91 = .ok (.iastore, 1) := by decide +kernel
theorem dX12_sell_92 : decode cX12_sell 92 = .ok (.aload_n 0, 1) := by decide +kernel
theorem dX12_sell_93 : decode cX12_sell 93 = .ok (.getfield 100, 3) := by decide +kernel
theorem dX12_sell_96 : decode cX12_sell 96 = .ok (.iconst 2, 1) := by decide +kernel
theorem dX12_sell_97 : decode cX12_sell 97 = .ok (.iload_n 1, 1) := by decide +kernel
theorem dX12_sell_98 : decode cX12_sell 98 = .ok (.imul, 1) := by decide +kernel
theorem dX12_sell_99 : decode cX12_sell 99 = .ok (.iload_n 2, 1) := by decide +kernel
theorem dX12_sell_100 : decode cX12_sell 100 = .ok (.iadd, 1) := by decide +kernel
theorem dX12_sell_101 : decode cX12_sell 101 = .ok (.iload_n 3, 1) := by decide +kernel
theorem dX12_sell_102 : decode cX12_sell 102 = .ok (.iastore, 1) := by decide +kernel
theorem dX12_sell_103 : decode cX12_sell 103 = .ok (.aload_n 0, 1) := by decide +kernel
theorem dX12_sell_104 : decode cX12_sell 104 = .ok (.dup, 1) := by decide +kernel
theorem dX12_sell_105 : decode cX12_sell 105 = .ok (.getfield 307, 3) := by decide +kernel
theorem dX12_sell_108 : decode cX12_sell 108 = .ok (.iconst 1, 1) := by decide +kernel
theorem dX12_sell_109 : decode cX12_sell 109 = .ok (.iadd, 1) := by decide +kernel
theorem dX12_sell_110 : decode cX12_sell 110 = .ok (.putfield 307, 3) := by decide +kernel
theorem dX12_sell_113 : decode cX12_sell 113 = .ok (.iconst 1, 1) := by decide +kernel
theorem dX12_sell_114 : decode cX12_sell 114 = .ok (.ireturn, 1) := by decide +kernel
theorem dX12_paid_0 : decode cX12_paid 0 = .ok (.aload_n 0, 1) := by decide +kernel
theorem dX12_paid_1 : decode cX12_paid 1 = .ok (.iload_n 1, 1) := by decide +kernel
theorem dX12_paid_2 : decode cX12_paid 2 = .ok (.invokevirtual 390, 3) := by decide +kernel
theorem dX12_paid_5 : decode cX12_paid 5 = .ok (.ifCond .eq 27, 3) := by decide +kernel
theorem dX12_paid_8 : decode cX12_paid 8 = .ok (.aload_n 0, 1) := by decide +kernel
theorem dX12_paid_9 : decode cX12_paid 9 = .ok (.iload_n 2, 1) := by decide +kernel
theorem dX12_paid_10 : decode cX12_paid 10 = .ok (.invokevirtual 390, 3) := by decide +kernel
theorem dX12_paid_13 : decode cX12_paid 13 = .ok (.ifCond .eq 19, 3) := by decide +kernel
theorem dX12_paid_16 : decode cX12_paid 16 = .ok (.iload_n 1, 1) := by decide +kernel
theorem dX12_paid_17 : decode cX12_paid 17 = .ok (.iload_n 2, 1) := by decide +kernel
theorem dX12_paid_18 : decode cX12_paid 18 = .ok (.if_icmp .eq 14, 3) := by decide +kernel
theorem dX12_paid_21 : decode cX12_paid 21 = .ok (.iload_n 3, 1) := by decide +kernel
theorem dX12_paid_22 : decode cX12_paid 22 = .ok (.iconst 1, 1) := by decide +kernel
theorem dX12_paid_23 : decode cX12_paid 23 = .ok (.sipush 9999, 3) := by decide +kernel
theorem dX12_paid_26 : decode cX12_paid 26 = .ok (.invokestatic 153, 3) := by decide +kernel
theorem dX12_paid_29 : decode cX12_paid 29 = .ok (.ifCond .ne 5, 3) := by decide +kernel
theorem dX12_paid_32 : decode cX12_paid 32 = .ok (.iconst 0, 1) := by decide +kernel
theorem dX12_paid_33 : decode cX12_paid 33 = .ok (.ireturn, 1) := by decide +kernel
theorem dX12_paid_34 : decode cX12_paid 34 = .ok (.aload_n 0, 1) := by decide +kernel
theorem dX12_paid_35 : decode cX12_paid 35 = .ok (.getfield 103, 3) := by decide +kernel
theorem dX12_paid_38 : decode cX12_paid 38 = .ok (.iload_n 1, 1) := by decide +kernel
theorem dX12_paid_39 : decode cX12_paid 39 = .ok (.dup2, 1) := by decide +kernel
theorem dX12_paid_40 : decode cX12_paid 40 = .ok (.iaload, 1) := by decide +kernel
theorem dX12_paid_41 : decode cX12_paid 41 = .ok (.iload_n 3, 1) := by decide +kernel
theorem dX12_paid_42 : decode cX12_paid 42 = .ok (.iadd, 1) := by decide +kernel
theorem dX12_paid_43 : decode cX12_paid 43 = .ok (.iastore, 1) := by decide +kernel
theorem dX12_paid_44 : decode cX12_paid 44 = .ok (.aload_n 0, 1) := by decide +kernel
theorem dX12_paid_45 : decode cX12_paid 45 = .ok (.getfield 103, 3) := by decide +kernel
theorem dX12_paid_48 : decode cX12_paid 48 = .ok (.iload_n 2, 1) := by decide +kernel
theorem dX12_paid_49 : decode cX12_paid 49 = .ok (.dup2, 1) := by decide +kernel
theorem dX12_paid_50 : decode cX12_paid 50 = .ok (.iaload, 1) := by decide +kernel
theorem dX12_paid_51 : decode cX12_paid 51 = .ok (.iload_n 3, 1) := by decide +kernel
theorem dX12_paid_52 : decode cX12_paid 52 = .ok (.isub, 1) := by decide +kernel
theorem dX12_paid_53 : decode cX12_paid 53 = .ok (.iastore, 1) := by decide +kernel
theorem dX12_paid_54 : decode cX12_paid 54 = .ok (.iconst 1, 1) := by decide +kernel
theorem dX12_paid_55 : decode cX12_paid 55 = .ok (.ireturn, 1) := by decide +kernel
theorem dX12_sidesOf_0 : decode cX12_sidesOf 0 = .ok (.aload_n 0, 1) := by decide +kernel
theorem dX12_sidesOf_1 : decode cX12_sidesOf 1 = .ok (.getfield 100, 3) := by decide +kernel
theorem dX12_sidesOf_4 : decode cX12_sidesOf 4 = .ok (.iconst 2, 1) := by decide +kernel
theorem dX12_sidesOf_5 : decode cX12_sidesOf 5 = .ok (.iload_n 1, 1) := by decide +kernel
theorem dX12_sidesOf_6 : decode cX12_sidesOf 6 = .ok (.imul, 1) := by decide +kernel
theorem dX12_sidesOf_7 : decode cX12_sidesOf 7 = .ok (.iaload, 1) := by decide +kernel
theorem dX12_sidesOf_8 : decode cX12_sidesOf 8 = .ok (.iload_n 2, 1) := by decide +kernel
theorem dX12_sidesOf_9 : decode cX12_sidesOf 9 = .ok (.if_icmp .ne 7, 3) := by decide +kernel
theorem dX12_sidesOf_12 : decode cX12_sidesOf 12 = .ok (.iconst 1, 1) := by decide +kernel
theorem dX12_sidesOf_13 : decode cX12_sidesOf 13 = .ok (.goto 4, 3) := by decide +kernel
theorem dX12_sidesOf_16 : decode cX12_sidesOf 16 = .ok (.iconst 0, 1) := by decide +kernel
theorem dX12_sidesOf_17 : decode cX12_sidesOf 17 = .ok (.invokestatic 319, 3) := by decide +kernel
theorem dX12_sidesOf_20 : decode cX12_sidesOf 20 = .ok (.aload_n 0, 1) := by decide +kernel
theorem dX12_sidesOf_21 : decode cX12_sidesOf 21 = .ok (.getfield 100, 3) := by decide +kernel
theorem dX12_sidesOf_24 : decode cX12_sidesOf 24 = .ok (.iconst 2, 1) := by decide +kernel
theorem dX12_sidesOf_25 : decode cX12_sidesOf 25 = .ok (.iload_n 1, 1) := by decide +kernel
theorem dX12_sidesOf_26 : decode cX12_sidesOf 26 = .ok (.imul, 1) := by decide +kernel
theorem dX12_sidesOf_27 : decode cX12_sidesOf 27 = .ok (.iconst 1, 1) := by decide +kernel
theorem dX12_sidesOf_28 : decode cX12_sidesOf 28 = .ok (.iadd, 1) := by decide +kernel
theorem dX12_sidesOf_29 : decode cX12_sidesOf 29 = .ok (.iaload, 1) := by decide +kernel
theorem dX12_sidesOf_30 : decode cX12_sidesOf 30 = .ok (.iload_n 2, 1) := by decide +kernel
theorem dX12_sidesOf_31 : decode cX12_sidesOf 31 = .ok (.if_icmp .ne 7, 3) := by decide +kernel
theorem dX12_sidesOf_34 : decode cX12_sidesOf 34 = .ok (.iconst 1, 1) := by decide +kernel
theorem dX12_sidesOf_35 : decode cX12_sidesOf 35 = .ok (.goto 4, 3) := by decide +kernel
theorem dX12_sidesOf_38 : decode cX12_sidesOf 38 = .ok (.iconst 0, 1) := by decide +kernel
theorem dX12_sidesOf_39 : decode cX12_sidesOf 39 = .ok (.invokestatic 319, 3) := by decide +kernel
theorem dX12_sidesOf_42 : decode cX12_sidesOf 42 = .ok (.isub, 1) := by decide +kernel
theorem dX12_sidesOf_43 : decode cX12_sidesOf 43 = .ok (.ireturn, 1) := by decide +kernel
theorem dX12_balances_0 : decode cX12_balances 0 = .ok (.iconst 0, 1) := by decide +kernel
theorem dX12_balances_1 : decode cX12_balances 1 = .ok (.istore_n 1, 1) := by decide +kernel
theorem dX12_balances_2 : decode cX12_balances 2 = .ok (.iload_n 1, 1) := by decide +kernel
theorem dX12_balances_3 : decode cX12_balances 3 = .ok (.aload_n 0, 1) := by decide +kernel
theorem dX12_balances_4 : decode cX12_balances 4 = .ok (.getfield 285, 3) := by decide +kernel
theorem dX12_balances_7 : decode cX12_balances 7 = .ok (.if_icmp .ge 21, 3) := by decide +kernel
theorem dX12_balances_10 : decode cX12_balances 10 = .ok (.aload_n 0, 1) := by decide +kernel
theorem dX12_balances_11 : decode cX12_balances 11 = .ok (.getfield 106, 3) := by decide +kernel
theorem dX12_balances_14 : decode cX12_balances 14 = .ok (.iload_n 1, 1) := by decide +kernel
theorem dX12_balances_15 : decode cX12_balances 15 = .ok (.aload_n 0, 1) := by decide +kernel
theorem dX12_balances_16 : decode cX12_balances 16 = .ok (.getfield 103, 3) := by decide +kernel
theorem dX12_balances_19 : decode cX12_balances 19 = .ok (.iload_n 1, 1) := by decide +kernel
theorem dX12_balances_20 : decode cX12_balances 20 = .ok (.iaload, 1) := by decide +kernel
theorem dX12_balances_21 : decode cX12_balances 21 = .ok (.iastore, 1) := by decide +kernel
theorem dX12_balances_22 : decode cX12_balances 22 = .ok (.iinc 1 1, 3) := by decide +kernel
theorem dX12_balances_25 : decode cX12_balances 25 = .ok (.goto (-23), 3) := by decide +kernel
theorem dX12_balances_28 : decode cX12_balances 28 = .ok (.iconst 0, 1) := by decide +kernel
theorem dX12_balances_29 : decode cX12_balances 29 = .ok (.istore_n 1, 1) := by decide +kernel
theorem dX12_balances_30 : decode cX12_balances 30 = .ok (.iload_n 1, 1) := by decide +kernel
theorem dX12_balances_31 : decode cX12_balances 31 = .ok (.aload_n 0, 1) := by decide +kernel
theorem dX12_balances_32 : decode cX12_balances 32 = .ok (.getfield 288, 3) := by decide +kernel
theorem dX12_balances_35 : decode cX12_balances 35 = .ok (.if_icmp .ge 62, 3) := by decide +kernel
theorem dX12_balances_38 : decode cX12_balances 38 = .ok (.aload_n 0, 1) := by decide +kernel
theorem dX12_balances_39 : decode cX12_balances 39 = .ok (.iload_n 1, 1) := by decide +kernel
theorem dX12_balances_40 : decode cX12_balances 40 = .ok (.invokevirtual 372, 3) := by decide +kernel
theorem dX12_balances_43 : decode cX12_balances 43 = .ok (.ifCond .ne 6, 3) := by decide +kernel
theorem dX12_balances_46 : decode cX12_balances 46 = .ok (.goto 45, 3) := by decide +kernel
theorem dX12_balances_49 : decode cX12_balances 49 = .ok (.aload_n 0, 1) := by decide +kernel
theorem dX12_balances_50 : decode cX12_balances 50 = .ok (.getfield 106, 3) := by decide +kernel
theorem dX12_balances_53 : decode cX12_balances 53 = .ok (.aload_n 0, 1) := by decide +kernel
theorem dX12_balances_54 : decode cX12_balances 54 = .ok (.getfield 100, 3) := by decide +kernel
theorem dX12_balances_57 : decode cX12_balances 57 = .ok (.iconst 2, 1) := by decide +kernel
theorem dX12_balances_58 : decode cX12_balances 58 = .ok (.iload_n 1, 1) := by decide +kernel
theorem dX12_balances_59 : decode cX12_balances 59 = .ok (.imul, 1) := by decide +kernel
theorem dX12_balances_60 : decode cX12_balances 60 = .ok (.iaload, 1) := by decide +kernel
theorem dX12_balances_61 : decode cX12_balances 61 = .ok (.dup2, 1) := by decide +kernel
theorem dX12_balances_62 : decode cX12_balances 62 = .ok (.iaload, 1) := by decide +kernel
theorem dX12_balances_63 : decode cX12_balances 63 = .ok (.aload_n 0, 1) := by decide +kernel
theorem dX12_balances_64 : decode cX12_balances 64 = .ok (.getfield 369, 3) := by decide +kernel
theorem dX12_balances_67 : decode cX12_balances 67 = .ok (.iadd, 1) := by decide +kernel
theorem dX12_balances_68 : decode cX12_balances 68 = .ok (.iastore, 1) := by decide +kernel
theorem dX12_balances_69 : decode cX12_balances 69 = .ok (.aload_n 0, 1) := by decide +kernel
theorem dX12_balances_70 : decode cX12_balances 70 = .ok (.getfield 106, 3) := by decide +kernel
theorem dX12_balances_73 : decode cX12_balances 73 = .ok (.aload_n 0, 1) := by decide +kernel
theorem dX12_balances_74 : decode cX12_balances 74 = .ok (.getfield 100, 3) := by decide +kernel
theorem dX12_balances_77 : decode cX12_balances 77 = .ok (.iconst 2, 1) := by decide +kernel
theorem dX12_balances_78 : decode cX12_balances 78 = .ok (.iload_n 1, 1) := by decide +kernel
theorem dX12_balances_79 : decode cX12_balances 79 = .ok (.imul, 1) := by decide +kernel
theorem dX12_balances_80 : decode cX12_balances 80 = .ok (.iconst 1, 1) := by decide +kernel
theorem dX12_balances_81 : decode cX12_balances 81 = .ok (.iadd, 1) := by decide +kernel
theorem dX12_balances_82 : decode cX12_balances 82 = .ok (.iaload, 1) := by decide +kernel
theorem dX12_balances_83 : decode cX12_balances 83 = .ok (.dup2, 1) := by decide +kernel
theorem dX12_balances_84 : decode cX12_balances 84 = .ok (.iaload, 1) := by decide +kernel
theorem dX12_balances_85 : decode cX12_balances 85 = .ok (.aload_n 0, 1) := by decide +kernel
theorem dX12_balances_86 : decode cX12_balances 86 = .ok (.getfield 369, 3) := by decide +kernel
theorem dX12_balances_89 : decode cX12_balances 89 = .ok (.isub, 1) := by decide +kernel
theorem dX12_balances_90 : decode cX12_balances 90 = .ok (.iastore, 1) := by decide +kernel
theorem dX12_balances_91 : decode cX12_balances 91 = .ok (.iinc 1 1, 3) := by decide +kernel
theorem dX12_balances_94 : decode cX12_balances 94 = .ok (.goto (-64), 3) := by decide +kernel
theorem dX12_balances_97 : decode cX12_balances 97 = .ok (.return_, 1) := by decide +kernel
theorem dX12_has_0 : decode cX12_has 0 = .ok (.aload_n 0, 1) := by decide +kernel
theorem dX12_has_1 : decode cX12_has 1 = .ok (.iload_n 1, 1) := by decide +kernel
theorem dX12_has_2 : decode cX12_has 2 = .ok (.invokevirtual 390, 3) := by decide +kernel
theorem dX12_has_5 : decode cX12_has 5 = .ok (.ifCond .ne 7, 3) := by decide +kernel
theorem dX12_has_8 : decode cX12_has 8 = .ok (.ldc_w 368, 3) := by decide +kernel
theorem dX12_has_11 : decode cX12_has 11 = .ok (.ireturn, 1) := by decide +kernel
theorem dX12_has_12 : decode cX12_has 12 = .ok (.aload_n 0, 1) := by decide +kernel
theorem dX12_has_13 : decode cX12_has 13 = .ok (.invokevirtual 393, 3) := by decide +kernel
theorem dX12_has_16 : decode cX12_has 16 = .ok (.aload_n 0, 1) := by decide +kernel
theorem dX12_has_17 : decode cX12_has 17 = .ok (.getfield 106, 3) := by decide +kernel
theorem dX12_has_20 : decode cX12_has 20 = .ok (.iload_n 1, 1) := by decide +kernel
theorem dX12_has_21 : decode cX12_has 21 = .ok (.iaload, 1) := by decide +kernel
theorem dX12_has_22 : decode cX12_has 22 = .ok (.ireturn, 1) := by decide +kernel
theorem dX12_endAtRow_0 : decode cX12_endAtRow 0 = .ok (.aload_n 0, 1) := by decide +kernel
theorem dX12_endAtRow_1 : decode cX12_endAtRow 1 = .ok (.getfield 103, 3) := by decide +kernel
theorem dX12_endAtRow_4 : decode cX12_endAtRow 4 = .ok (.iload_n 1, 1) := by decide +kernel
theorem dX12_endAtRow_5 : decode cX12_endAtRow 5 = .ok (.iaload, 1) := by decide +kernel
theorem dX12_endAtRow_6 : decode cX12_endAtRow 6 = .ok (.istore_n 3, 1) := by decide +kernel
theorem dX12_endAtRow_7 : decode cX12_endAtRow 7 = .ok (.iconst 0, 1) := by decide +kernel
theorem dX12_endAtRow_8 : decode cX12_endAtRow 8 = .ok (.istore 4, 2) := by decide +kernel
theorem dX12_endAtRow_10 : decode cX12_endAtRow 10 = .ok (.iload 4, 2) := by decide +kernel
theorem dX12_endAtRow_12 : decode cX12_endAtRow 12 = .ok (.aload_n 0, 1) := by decide +kernel
theorem dX12_endAtRow_13 : decode cX12_endAtRow 13 = .ok (.getfield 288, 3) := by decide +kernel
theorem dX12_endAtRow_16 : decode cX12_endAtRow 16 = .ok (.if_icmp .ge 27, 3) := by decide +kernel
theorem dX12_endAtRow_19 : decode cX12_endAtRow 19 = .ok (.iload_n 3, 1) := by decide +kernel
theorem dX12_endAtRow_20 : decode cX12_endAtRow 20 = .ok (.aload_n 0, 1) := by decide +kernel
theorem dX12_endAtRow_21 : decode cX12_endAtRow 21 = .ok (.iload 4, 2) := by decide +kernel
theorem dX12_endAtRow_23 : decode cX12_endAtRow 23 = .ok (.iload_n 1, 1) := by decide +kernel
theorem dX12_endAtRow_24 : decode cX12_endAtRow 24 = .ok (.invokevirtual 396, 3) := by decide +kernel
theorem dX12_endAtRow_27 : decode cX12_endAtRow 27 = .ok (.aload_n 0, 1) := by decide +kernel
theorem dX12_endAtRow_28 : decode cX12_endAtRow 28 = .ok (.iload 4, 2) := by decide +kernel
theorem dX12_endAtRow_30 : decode cX12_endAtRow 30 = .ok (.iload_n 2, 1) := by decide +kernel
theorem dX12_endAtRow_31 : decode cX12_endAtRow 31 = .ok (.invokevirtual 364, 3) := by decide +kernel
theorem dX12_endAtRow_34 : decode cX12_endAtRow 34 = .ok (.imul, 1) := by decide +kernel
theorem dX12_endAtRow_35 : decode cX12_endAtRow 35 = .ok (.iadd, 1) := by decide +kernel
theorem dX12_endAtRow_36 : decode cX12_endAtRow 36 = .ok (.istore_n 3, 1) := by decide +kernel
theorem dX12_endAtRow_37 : decode cX12_endAtRow 37 = .ok (.iinc 4 1, 3) := by decide +kernel
theorem dX12_endAtRow_40 : decode cX12_endAtRow 40 = .ok (.goto (-30), 3) := by decide +kernel
theorem dX12_endAtRow_43 : decode cX12_endAtRow 43 = .ok (.iload_n 3, 1) := by decide +kernel
theorem dX12_endAtRow_44 : decode cX12_endAtRow 44 = .ok (.ireturn, 1) := by decide +kernel
theorem dX12_may_0 : decode cX12_may 0 = .ok (.aload_n 0, 1) := by decide +kernel
theorem dX12_may_1 : decode cX12_may 1 = .ok (.iload_n 1, 1) := by decide +kernel
theorem dX12_may_2 : decode cX12_may 2 = .ok (.invokevirtual 390, 3) := by decide +kernel
theorem dX12_may_5 : decode cX12_may 5 = .ok (.ifCond .eq 12, 3) := by decide +kernel
theorem dX12_may_8 : decode cX12_may 8 = .ok (.iload_n 2, 1) := by decide +kernel
theorem dX12_may_9 : decode cX12_may 9 = .ok (.iconst 0, 1) := by decide +kernel
theorem dX12_may_10 : decode cX12_may 10 = .ok (.iconst 1, 1) := by decide +kernel
theorem dX12_may_11 : decode cX12_may 11 = .ok (.invokestatic 153, 3) := by decide +kernel
theorem dX12_may_14 : decode cX12_may 14 = .ok (.ifCond .ne 7, 3) := by decide +kernel
theorem dX12_may_17 : decode cX12_may 17 = .ok (.ldc_w 368, 3) := by decide +kernel
theorem dX12_may_20 : decode cX12_may 20 = .ok (.ireturn, 1) := by decide +kernel
theorem dX12_may_21 : decode cX12_may 21 = .ok (.iconst 0, 1) := by decide +kernel
theorem dX12_may_22 : decode cX12_may 22 = .ok (.istore_n 3, 1) := by decide +kernel
theorem dX12_may_23 : decode cX12_may 23 = .ok (.iconst 0, 1) := by decide +kernel
theorem dX12_may_24 : decode cX12_may 24 = .ok (.istore 4, 2) := by decide +kernel
theorem dX12_may_26 : decode cX12_may 26 = .ok (.iconst 0, 1) := by decide +kernel
theorem dX12_may_27 : decode cX12_may 27 = .ok (.istore 5, 2) := by decide +kernel
theorem dX12_may_29 : decode cX12_may 29 = .ok (.iload 5, 2) := by decide +kernel
theorem dX12_may_31 : decode cX12_may 31 = .ok (.aload_n 0, 1) := by decide +kernel
theorem dX12_may_32 : decode cX12_may 32 = .ok (.getfield 329, 3) := by decide +kernel
theorem dX12_may_35 : decode cX12_may 35 = .ok (.if_icmp .ge 61, 3) := by decide +kernel
theorem dX12_may_38 : decode cX12_may 38 = .ok (.aload_n 0, 1) := by decide +kernel
theorem dX12_may_39 : decode cX12_may 39 = .ok (.iload 5, 2) := by decide +kernel
theorem dX12_may_41 : decode cX12_may 41 = .ok (.invokevirtual 348, 3) := by decide +kernel
theorem dX12_may_44 : decode cX12_may 44 = .ok (.ifCond .ne 6, 3) := by decide +kernel
theorem dX12_may_47 : decode cX12_may 47 = .ok (.goto 43, 3) := by decide +kernel
theorem dX12_may_50 : decode cX12_may 50 = .ok (.aload_n 0, 1) := by decide +kernel
theorem dX12_may_51 : decode cX12_may 51 = .ok (.iload_n 1, 1) := by decide +kernel
theorem dX12_may_52 : decode cX12_may 52 = .ok (.iload 5, 2) := by decide +kernel
theorem dX12_may_54 : decode cX12_may 54 = .ok (.invokevirtual 399, 3) := by decide +kernel
theorem dX12_may_57 : decode cX12_may 57 = .ok (.istore 6, 2) := by decide +kernel
theorem dX12_may_59 : decode cX12_may 59 = .ok (.iload_n 3, 1) := by decide +kernel
theorem dX12_may_60 : decode cX12_may 60 = .ok (.ifCond .eq 24, 3) := by decide +kernel
theorem dX12_may_63 : decode cX12_may 63 = .ok (.iload_n 2, 1) := by decide +kernel
theorem dX12_may_64 : decode cX12_may 64 = .ok (.ifCond .ne 13, 3) := by decide +kernel
theorem dX12_may_67 : decode cX12_may 67 = .ok (.iload 6, 2) := by decide +kernel
theorem dX12_may_69 : decode cX12_may 69 = .ok (.iload 4, 2) := by decide +kernel
theorem dX12_may_71 : decode cX12_may 71 = .ok (.if_icmp .ge 17, 3) := by decide +kernel
theorem dX12_may_74 : decode cX12_may 74 = .ok (.goto 10, 3) := by decide +kernel
theorem dX12_may_77 : decode cX12_may 77 = .ok (.iload 6, 2) := by decide +kernel
theorem dX12_may_79 : decode cX12_may 79 = .ok (.iload 4, 2) := by decide +kernel
theorem dX12_may_81 : decode cX12_may 81 = .ok (.if_icmp .le 7, 3) := by decide +kernel
theorem dX12_may_84 : decode cX12_may 84 = .ok (.iload 6, 2) := by decide +kernel
theorem dX12_may_86 : decode cX12_may 86 = .ok (.istore 4, 2) := by decide +kernel
theorem dX12_may_88 : decode cX12_may 88 = .ok (.iconst 1, 1) := by decide +kernel
theorem dX12_may_89 : decode cX12_may 89 = .ok (.istore_n 3, 1) := by decide +kernel
theorem dX12_may_90 : decode cX12_may 90 = .ok (.iinc 5 1, 3) := by decide +kernel
theorem dX12_may_93 : decode cX12_may 93 = .ok (.goto (-64), 3) := by decide +kernel
theorem dX12_may_96 : decode cX12_may 96 = .ok (.iload 4, 2) := by decide +kernel
theorem dX12_may_98 : decode cX12_may 98 = .ok (.ireturn, 1) := by decide +kernel
theorem dX12_end_0 : decode cX12_end 0 = .ok (.aload_n 0, 1) := by decide +kernel
theorem dX12_end_1 : decode cX12_end 1 = .ok (.iload_n 1, 1) := by decide +kernel
theorem dX12_end_2 : decode cX12_end 2 = .ok (.invokevirtual 390, 3) := by decide +kernel
theorem dX12_end_5 : decode cX12_end 5 = .ok (.ifCond .eq 20, 3) := by decide +kernel
theorem dX12_end_8 : decode cX12_end 8 = .ok (.aload_n 0, 1) := by decide +kernel
theorem dX12_end_9 : decode cX12_end 9 = .ok (.iload_n 2, 1) := by decide +kernel
theorem dX12_end_10 : decode cX12_end 10 = .ok (.invokevirtual 358, 3) := by decide +kernel
theorem dX12_end_13 : decode cX12_end 13 = .ok (.ifCond .eq 12, 3) := by decide +kernel
theorem dX12_end_16 : decode cX12_end 16 = .ok (.aload_n 0, 1) := by decide +kernel
theorem dX12_end_17 : decode cX12_end 17 = .ok (.iload_n 1, 1) := by decide +kernel
theorem dX12_end_18 : decode cX12_end 18 = .ok (.iload_n 2, 1) := by decide +kernel
theorem dX12_end_19 : decode cX12_end 19 = .ok (.invokevirtual 399, 3) := by decide +kernel
theorem dX12_end_22 : decode cX12_end 22 = .ok (.goto 6, 3) := by decide +kernel
theorem dX12_end_25 : decode cX12_end 25 = .ok (.ldc_w 368, 3) := by decide +kernel
theorem dX12_end_28 : decode cX12_end 28 = .ok (.ireturn, 1) := by decide +kernel
theorem dX12_settle_0 : decode cX12_settle 0 = .ok (.aload_n 0, 1) := by decide +kernel
theorem dX12_settle_1 : decode cX12_settle 1 = .ok (.invokevirtual 393, 3) := by decide +kernel
theorem dX12_settle_4 : decode cX12_settle 4 = .ok (.iconst 0, 1) := by decide +kernel
theorem dX12_settle_5 : decode cX12_settle 5 = .ok (.istore_n 1, 1) := by decide +kernel
theorem dX12_settle_6 : decode cX12_settle 6 = .ok (.iconst 0, 1) := by decide +kernel
theorem dX12_settle_7 : decode cX12_settle 7 = .ok (.istore_n 2, 1) := by decide +kernel
theorem dX12_settle_8 : decode cX12_settle 8 = .ok (.iload_n 2, 1) := by decide +kernel
theorem dX12_settle_9 : decode cX12_settle 9 = .ok (.aload_n 0, 1) := by decide +kernel
theorem dX12_settle_10 : decode cX12_settle 10 = .ok (.getfield 285, 3) := by decide +kernel
theorem dX12_settle_13 : decode cX12_settle 13 = .ok (.if_icmp .ge 29, 3) := by decide +kernel
theorem dX12_settle_16 : decode cX12_settle 16 = .ok (.iload_n 1, 1) := by decide +kernel
theorem dX12_settle_17 : decode cX12_settle 17 = .ok (.aload_n 0, 1) := by decide +kernel
theorem dX12_settle_18 : decode cX12_settle 18 = .ok (.getfield 106, 3) := by decide +kernel
theorem dX12_settle_21 : decode cX12_settle 21 = .ok (.iload_n 2, 1) := by decide +kernel
theorem dX12_settle_22 : decode cX12_settle 22 = .ok (.iaload, 1) := by decide +kernel
theorem dX12_settle_23 : decode cX12_settle 23 = .ok (.ifCond .eq 7, 3) := by decide +kernel
theorem dX12_settle_26 : decode cX12_settle 26 = .ok (.iconst 1, 1) := by decide +kernel
theorem dX12_settle_27 : decode cX12_settle 27 = .ok (.goto 4, 3) := by decide +kernel
theorem dX12_settle_30 : decode cX12_settle 30 = .ok (.iconst 0, 1) := by decide +kernel
theorem dX12_settle_31 : decode cX12_settle 31 = .ok (.invokestatic 319, 3) := by decide +kernel
theorem dX12_settle_34 : decode cX12_settle 34 = .ok (.iadd, 1) := by decide +kernel
theorem dX12_settle_35 : decode cX12_settle 35 = .ok (.istore_n 1, 1) := by decide +kernel
theorem dX12_settle_36 : decode cX12_settle 36 = .ok (.iinc 2 1, 3) := by decide +kernel
theorem dX12_settle_39 : decode cX12_settle 39 = .ok (.goto (-31), 3) := by decide +kernel
theorem dX12_settle_42 : decode cX12_settle 42 = .ok (.iconst 1, 1) := by decide +kernel
theorem dX12_settle_43 : decode cX12_settle 43 = .ok (.istore_n 2, 1) := by decide +kernel
theorem dX12_settle_44 : decode cX12_settle 44 = .ok (.iload_n 2, 1) := by decide +kernel
theorem dX12_settle_45 : decode cX12_settle 45 = .ok (.iconst 1, 1) := by decide +kernel
theorem dX12_settle_46 : decode cX12_settle 46 = .ok (.aload_n 0, 1) := by decide +kernel
theorem dX12_settle_47 : decode cX12_settle 47 = .ok (.getfield 285, 3) := by decide +kernel
theorem dX12_settle_50 : decode cX12_settle 50 = .ok (.ishl, 1) := by decide +kernel
theorem dX12_settle_51 : decode cX12_settle 51 = .ok (.if_icmp .ge 107, 3) := by decide +kernel
theorem dX12_settle_54 : decode cX12_settle 54 = .ok (.iconst 0, 1) := by decide +kernel
theorem dX12_settle_55 : decode cX12_settle 55 = .ok (.istore_n 3, 1) := by decide +kernel
theorem dX12_settle_56 : decode cX12_settle 56 = .ok (.aload_n 0, 1) := by decide +kernel
theorem dX12_settle_57 : decode cX12_settle 57 = .ok (.getfield 109, 3) := by decide +kernel
theorem dX12_settle_60 : decode cX12_settle 60 = .ok (.iload_n 2, 1) := by decide +kernel
theorem dX12_settle_61 : decode cX12_settle 61 = .ok (.iconst 0, 1) := by decide +kernel
theorem dX12_settle_62 : decode cX12_settle 62 = .ok (.iastore, 1) := by decide +kernel
theorem dX12_settle_63 : decode cX12_settle 63 = .ok (.iconst 0, 1) := by decide +kernel
theorem dX12_settle_64 : decode cX12_settle 64 = .ok (.istore 4, 2) := by decide +kernel
theorem dX12_settle_66 : decode cX12_settle 66 = .ok (.iload 4, 2) := by decide +kernel
theorem dX12_settle_68 : decode cX12_settle 68 = .ok (.aload_n 0, 1) := by decide +kernel
theorem dX12_settle_69 : decode cX12_settle 69 = .ok (.getfield 285, 3) := by decide +kernel
theorem dX12_settle_72 : decode cX12_settle 72 = .ok (.if_icmp .ge 59, 3) := by decide +kernel
theorem dX12_settle_75 : decode cX12_settle 75 = .ok (.iload_n 2, 1) := by decide +kernel
theorem dX12_settle_76 : decode cX12_settle 76 = .ok (.iload 4, 2) := by decide +kernel
theorem dX12_settle_78 : decode cX12_settle 78 = .ok (.invokestatic 345, 3) := by decide +kernel
theorem dX12_settle_81 : decode cX12_settle 81 = .ok (.ifCond .ne 6, 3) := by decide +kernel
theorem dX12_settle_84 : decode cX12_settle 84 = .ok (.goto 41, 3) := by decide +kernel
theorem dX12_settle_87 : decode cX12_settle 87 = .ok (.iload_n 3, 1) := by decide +kernel
theorem dX12_settle_88 : decode cX12_settle 88 = .ok (.aload_n 0, 1) := by decide +kernel
theorem dX12_settle_89 : decode cX12_settle 89 = .ok (.getfield 106, 3) := by decide +kernel
theorem dX12_settle_92 : decode cX12_settle 92 = .ok (.iload 4, 2) := by decide +kernel
theorem dX12_settle_94 : decode cX12_settle 94 = .ok (.iaload, 1) := by decide +kernel
theorem dX12_settle_95 : decode cX12_settle 95 = .ok (.iadd, 1) := by decide +kernel
theorem dX12_settle_96 : decode cX12_settle 96 = .ok (.istore_n 3, 1) := by decide +kernel
theorem dX12_settle_97 : decode cX12_settle 97 = .ok (.aload_n 0, 1) := by decide +kernel
theorem dX12_settle_98 : decode cX12_settle 98 = .ok (.getfield 109, 3) := by decide +kernel
theorem dX12_settle_101 : decode cX12_settle 101 = .ok (.iload_n 2, 1) := by decide +kernel
