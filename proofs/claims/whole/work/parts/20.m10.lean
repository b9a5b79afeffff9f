/-! methods: X6_weave, X6_forge, X6_function -/
theorem dX6_weave_0 : decode cX6_weave 0 = .ok (.iconst 0, 1) := by decide +kernel
theorem dX6_weave_1 : decode cX6_weave 1 = .ok (.istore_n 2, 1) := by decide +kernel
theorem dX6_weave_2 : decode cX6_weave 2 = .ok (.iconst 0, 1) := by decide +kernel
theorem dX6_weave_3 : decode cX6_weave 3 = .ok (.istore_n 3, 1) := by decide +kernel
theorem dX6_weave_4 : decode cX6_weave 4 = .ok (.iload_n 3, 1) := by decide +kernel
theorem dX6_weave_5 : decode cX6_weave 5 = .ok (.aload_n 0, 1) := by decide +kernel
theorem dX6_weave_6 : decode cX6_weave 6 = .ok (.getfield 25, 3) := by decide +kernel
theorem dX6_weave_9 : decode cX6_weave 9 = .ok (.iload_n 1, 1) := by decide +kernel
theorem dX6_weave_10 : decode cX6_weave 10 = .ok (.iaload, 1) := by decide +kernel
theorem dX6_weave_11 : decode cX6_weave 11 = .ok (.if_icmp .ge 34, 3) := by decide +kernel
theorem dX6_weave_14 : decode cX6_weave 14 = .ok (.aload_n 0, 1) := by decide +kernel
theorem dX6_weave_15 : decode cX6_weave 15 = .ok (.getfield 62, 3) := by decide +kernel
theorem dX6_weave_18 : decode cX6_weave 18 = .ok (.iload_n 3, 1) := by decide +kernel
theorem dX6_weave_19 : decode cX6_weave 19 = .ok (.iload_n 2, 1) := by decide +kernel
theorem dX6_weave_20 : decode cX6_weave 20 = .ok (.iastore, 1) := by decide +kernel
theorem dX6_weave_21 : decode cX6_weave 21 = .ok (.iload_n 2, 1) := by decide +kernel
theorem dX6_weave_22 : decode cX6_weave 22 = .ok (.aload_n 0, 1) := by decide +kernel
theorem dX6_weave_23 : decode cX6_weave 23 = .ok (.iconst 0, 1) := by decide +kernel
theorem dX6_weave_24 : decode cX6_weave 24 = .ok (.iload_n 1, 1) := by decide +kernel
theorem dX6_weave_25 : decode cX6_weave 25 = .ok (.iload_n 3, 1) := by decide +kernel
theorem dX6_weave_26 : decode cX6_weave 26 = .ok (.invokevirtual 122, 3) := by decide +kernel
theorem dX6_weave_29 : decode cX6_weave 29 = .ok (.ifCond .eq 7, 3) := by decide +kernel
theorem dX6_weave_32 : decode cX6_weave 32 = .ok (.iconst 2, 1) := by decide +kernel
theorem dX6_weave_33 : decode cX6_weave 33 = .ok (.goto 4, 3) := by decide +kernel
theorem dX6_weave_36 : decode cX6_weave 36 = .ok (.iconst 1, 1) := by decide +kernel
theorem dX6_weave_37 : decode cX6_weave 37 = .ok (.iadd, 1) := by decide +kernel
theorem dX6_weave_38 : decode cX6_weave 38 = .ok (.istore_n 2, 1) := by decide +kernel
theorem dX6_weave_39 : decode cX6_weave 39 = .ok (.iinc 3 1, 3) := by decide +kernel
theorem dX6_weave_42 : decode cX6_weave 42 = .ok (.goto (-38), 3) := by decide +kernel
theorem dX6_weave_45 : decode cX6_weave 45 = .ok (.aload_n 0, 1) := by decide +kernel
theorem dX6_weave_46 : decode cX6_weave 46 = .ok (.getfield 62, 3) := by decide +kernel
theorem dX6_weave_49 : decode cX6_weave 49 = .ok (.aload_n 0, 1) := by decide +kernel
theorem dX6_weave_50 : decode cX6_weave 50 = .ok (.getfield 25, 3) := by decide +kernel
theorem dX6_weave_53 : decode cX6_weave 53 = .ok (.iload_n 1, 1) := by decide +kernel
theorem dX6_weave_54 : decode cX6_weave 54 = .ok (.iaload, 1) := by decide +kernel
theorem dX6_weave_55 : decode cX6_weave 55 = .ok (.iload_n 2, 1) := by decide +kernel
theorem dX6_weave_56 : decode cX6_weave 56 = .ok (.iastore, 1) := by decide +kernel
theorem dX6_weave_57 : decode cX6_weave 57 = .ok (.aload_n 0, 1) := by decide +kernel
theorem dX6_weave_58 : decode cX6_weave 58 = .ok (.getfield 25, 3) := by decide +kernel
theorem dX6_weave_61 : decode cX6_weave 61 = .ok (.bipush 8, 2) := by decide +kernel
theorem dX6_weave_63 : decode cX6_weave 63 = .ok (.iload_n 1, 1) := by decide +kernel
theorem dX6_weave_64 : decode cX6_weave 64 = .ok (.iadd, 1) := by decide +kernel
theorem dX6_weave_65 : decode cX6_weave 65 = .ok (.iload_n 2, 1) := by decide +kernel
theorem dX6_weave_66 : decode cX6_weave 66 = .ok (.iastore, 1) := by decide +kernel
theorem dX6_weave_67 : decode cX6_weave 67 = .ok (.aload_n 0, 1) := by decide +kernel
theorem dX6_weave_68 : decode cX6_weave 68 = .ok (.getfield 28, 3) := by decide +kernel
theorem dX6_weave_71 : decode cX6_weave 71 = .ok (.bipush 8, 2) := by decide +kernel
theorem dX6_weave_73 : decode cX6_weave 73 = .ok (.iload_n 1, 1) := by decide +kernel
theorem dX6_weave_74 : decode cX6_weave 74 = .ok (.iadd, 1) := by decide +kernel
theorem dX6_weave_75 : decode cX6_weave 75 = .ok (.aload_n 0, 1) := by decide +kernel
theorem dX6_weave_76 : decode cX6_weave 76 = .ok (.getfield 28, 3) := by decide +kernel
theorem dX6_weave_79 : decode cX6_weave 79 = .ok (.iload_n 1, 1) := by decide +kernel
theorem dX6_weave_80 : decode cX6_weave 80 = .ok (.iaload, 1) := by decide +kernel
theorem dX6_weave_81 : decode cX6_weave 81 = .ok (.iastore, 1) := by decide +kernel
theorem dX6_weave_82 : decode cX6_weave 82 = .ok (.iconst 0, 1) := by decide +kernel
theorem dX6_weave_83 : decode cX6_weave 83 = .ok (.istore_n 3, 1) := by decide +kernel
theorem dX6_weave_84 : decode cX6_weave 84 = .ok (.iload_n 3, 1) := by decide +kernel
theorem dX6_weave_85 : decode cX6_weave 85 = .ok (.aload_n 0, 1) := by decide +kernel
theorem dX6_weave_86 : decode cX6_weave 86 = .ok (.getfield 25, 3) := by decide +kernel
theorem dX6_weave_89 : decode cX6_weave 89 = .ok (.iload_n 1, 1) := by decide +kernel
theorem dX6_weave_90 : decode cX6_weave 90 = .ok (.iaload, 1) := by decide +kernel
theorem dX6_weave_91 : decode cX6_weave 91 = .ok (.if_icmp .ge 136, 3) := by decide +kernel
theorem dX6_weave_94 : decode cX6_weave 94 = .ok (.sipush 200, 3) := by decide +kernel
theorem dX6_weave_97 : decode cX6_weave 97 = .ok (.iload_n 1, 1) := by decide +kernel
theorem dX6_weave_98 : decode cX6_weave 98 = .ok (.imul, 1) := by decide +kernel
theorem dX6_weave_99 : decode cX6_weave 99 = .ok (.iload_n 3, 1) := by decide +kernel
theorem dX6_weave_100 : decode cX6_weave 100 = .ok (.iadd, 1) := by decide +kernel
theorem dX6_weave_101 : decode cX6_weave 101 = .ok (.istore 4, 2) := by decide +kernel
theorem dX6_weave_103 : decode cX6_weave 103 = .ok (.sipush 1600, 3) := by decide +kernel
theorem dX6_weave_106 : decode cX6_weave 106 = .ok (.sipush 200, 3) := by decide +kernel
theorem dX6_weave_109 : decode cX6_weave 109 = .ok (.iload_n 1, 1) := by decide +kernel
theorem dX6_weave_110 : decode cX6_weave 110 = .ok (.imul, 1) := by decide +kernel
theorem dX6_weave_111 : decode cX6_weave 111 = .ok (.iadd, 1) := by decide +kernel
theorem dX6_weave_112 : decode cX6_weave 112 = .ok (.aload_n 0, 1) := by decide +kernel
theorem dX6_weave_113 : decode cX6_weave 113 = .ok (.getfield 62, 3) := by decide +kernel
theorem dX6_weave_116 : decode cX6_weave 116 = .ok (.iload_n 3, 1) := by decide +kernel
theorem dX6_weave_117 : decode cX6_weave 117 = .ok (.iaload, 1) := by decide +kernel
theorem dX6_weave_118 : decode cX6_weave 118 = .ok (.iadd, 1) := by decide +kernel
theorem dX6_weave_119 : decode cX6_weave 119 = .ok (.istore 5, 2) := by decide +kernel
theorem dX6_weave_121 : decode cX6_weave 121 = .ok (.aload_n 0, 1) := by decide +kernel
theorem dX6_weave_122 : decode cX6_weave 122 = .ok (.iconst 0, 1) := by decide +kernel
theorem dX6_weave_123 : decode cX6_weave 123 = .ok (.iload_n 1, 1) := by decide +kernel
theorem dX6_weave_124 : decode cX6_weave 124 = .ok (.iload_n 3, 1) := by decide +kernel
theorem dX6_weave_125 : decode cX6_weave 125 = .ok (.invokevirtual 122, 3) := by decide +kernel
theorem dX6_weave_128 : decode cX6_weave 128 = .ok (.ifCond .eq 28, 3) := by decide +kernel
theorem dX6_weave_131 : decode cX6_weave 131 = .ok (.aload_n 0, 1) := by decide +kernel
theorem dX6_weave_132 : decode cX6_weave 132 = .ok (.getfield 31, 3) := by decide +kernel
theorem dX6_weave_135 : decode cX6_weave 135 = .ok (.iload 5, 2) := by decide +kernel
theorem dX6_weave_137 : decode cX6_weave 137 = .ok (.iconst 5, 1) := by decide +kernel
theorem dX6_weave_138 : decode cX6_weave 138 = .ok (.iastore, 1) := by decide +kernel
theorem dX6_weave_139 : decode cX6_weave 139 = .ok (.aload_n 0, 1) := by decide +kernel
theorem dX6_weave_140 : decode cX6_weave 140 = .ok (.getfield 34, 3) := by decide +kernel
theorem dX6_weave_143 : decode cX6_weave 143 = .ok (.iload 5, 2) := by decide +kernel
theorem dX6_weave_145 : decode cX6_weave 145 = .ok (.aload_n 0, 1) := by decide +kernel
theorem dX6_weave_146 : decode cX6_weave 146 = .ok (.getfield 34, 3) := by decide +kernel
theorem dX6_weave_149 : decode cX6_weave 149 = .ok (.iload 4, 2) := by decide +kernel
theorem dX6_weave_151 : decode cX6_weave 151 = .ok (.iaload, 1) := by decide +kernel
theorem dX6_weave_152 : decode cX6_weave 152 = .ok (.iastore, 1) := by decide +kernel
theorem dX6_weave_153 : decode cX6_weave 153 = .ok (.iinc 5 1, 3) := by decide +kernel
theorem dX6_weave_156 : decode cX6_weave 156 = .ok (.aload_n 0, 1) := by decide +kernel
theorem dX6_weave_157 : decode cX6_weave 157 = .ok (.getfield 31, 3) := by decide +kernel
theorem dX6_weave_160 : decode cX6_weave 160 = .ok (.iload 5, 2) := by decide +kernel
theorem dX6_weave_162 : decode cX6_weave 162 = .ok (.aload_n 0, 1) := by decide +kernel
theorem dX6_weave_163 : decode cX6_weave 163 = .ok (.getfield 31, 3) := by decide +kernel
theorem dX6_weave_166 : decode cX6_weave 166 = .ok (.iload 4, 2) := by decide +kernel
theorem dX6_weave_168 : decode cX6_weave 168 = .ok (.iaload, 1) := by decide +kernel
theorem dX6_weave_169 : decode cX6_weave 169 = .ok (.iastore, 1) := by decide +kernel
theorem dX6_weave_170 : decode cX6_weave 170 = .ok (.aload_n 0, 1) := by decide +kernel
theorem dX6_weave_171 : decode cX6_weave 171 = .ok (.getfield 34, 3) := by decide +kernel
theorem dX6_weave_174 : decode cX6_weave 174 = .ok (.iload 5, 2) := by decide +kernel
theorem dX6_weave_176 : decode cX6_weave 176 = .ok (.aload_n 0, 1) := by decide +kernel
theorem dX6_weave_177 : decode cX6_weave 177 = .ok (.getfield 31, 3) := by decide +kernel
theorem dX6_weave_180 : decode cX6_weave 180 = .ok (.iload 4, 2) := by decide +kernel
theorem dX6_weave_182 : decode cX6_weave 182 = .ok (.iaload, 1) := by decide +kernel
theorem dX6_weave_183 : decode cX6_weave 183 = .ok (.iconst 1, 1) := by decide +kernel
theorem dX6_weave_184 : decode cX6_weave 184 = .ok (.if_icmp .eq 14, 3) := by decide +kernel
theorem dX6_weave_187 : decode cX6_weave 187 = .ok (.aload_n 0, 1) := by decide +kernel
theorem dX6_weave_188 : decode cX6_weave 188 = .ok (.getfield 31, 3) := by decide +kernel
theorem dX6_weave_191 : decode cX6_weave 191 = .ok (.iload 4, 2) := by decide +kernel
theorem dX6_weave_193 : decode cX6_weave 193 = .ok (.iaload, 1) := by decide +kernel
theorem dX6_weave_194 : decode cX6_weave 194 = .ok (.iconst 2, 1) := by decide +kernel
theorem dX6_weave_195 : decode cX6_weave 195 = .ok (.if_icmp .ne 18, 3) := by decide +kernel
theorem dX6_weave_198 : decode cX6_weave 198 = .ok (.aload_n 0, 1) := by decide +kernel
theorem dX6_weave_199 : decode cX6_weave 199 = .ok (.getfield 62, 3) := by decide +kernel
theorem dX6_weave_202 : decode cX6_weave 202 = .ok (.aload_n 0, 1) := by decide +kernel
theorem dX6_weave_203 : decode cX6_weave 203 = .ok (.getfield 34, 3) := by decide +kernel
theorem dX6_weave_206 : decode cX6_weave 206 = .ok (.iload 4, 2) := by decide +kernel
theorem dX6_weave_208 : decode cX6_weave 208 = .ok (.iaload, 1) := by decide +kernel
theorem dX6_weave_209 : decode cX6_weave 209 = .ok (.iaload, 1) := by decide +kernel
theorem dX6_weave_210 : decode cX6_weave 210 = .ok (.goto 10, 3) := by decide +kernel
theorem dX6_weave_213 : decode cX6_weave 213 = .ok (.aload_n 0, 1) := by decide +kernel
theorem dX6_weave_214 : decode cX6_weave 214 = .ok (.getfield 34, 3) := by decide +kernel
theorem dX6_weave_217 : decode cX6_weave 217 = .ok (.iload 4, 2) := by decide +kernel
theorem dX6_weave_219 : decode cX6_weave 219 = .ok (.iaload, 1) := by decide +kernel
theorem dX6_weave_220 : decode cX6_weave 220 = .ok (.iastore, 1) := by decide +kernel
theorem dX6_weave_221 : decode cX6_weave 221 = .ok (.iinc 3 1, 3) := by decide +kernel
theorem dX6_weave_224 : decode cX6_weave 224 = .ok (.goto (-140), 3) := by decide +kernel
theorem dX6_weave_227 : decode cX6_weave 227 = .ok (.iconst 0, 1) := by decide +kernel
theorem dX6_weave_228 : decode cX6_weave 228 = .ok (.istore_n 3, 1) := by decide +kernel
theorem dX6_weave_229 : decode cX6_weave 229 = .ok (.iload_n 3, 1) := by decide +kernel
theorem dX6_weave_230 : decode cX6_weave 230 = .ok (.aload_n 0, 1) := by decide +kernel
theorem dX6_weave_231 : decode cX6_weave 231 = .ok (.getfield 28, 3) := by decide +kernel
theorem dX6_weave_234 : decode cX6_weave 234 = .ok (.iload_n 1, 1) := by decide +kernel
theorem dX6_weave_235 : decode cX6_weave 235 = .ok (.iaload, 1) := by decide +kernel
theorem dX6_weave_236 : decode cX6_weave 236 = .ok (.if_icmp .ge 99, 3) := by decide +kernel
theorem dX6_weave_239 : decode cX6_weave 239 = .ok (.aload_n 0, 1) := by decide +kernel
theorem dX6_weave_240 : decode cX6_weave 240 = .ok (.getfield 37, 3) := by decide +kernel
theorem dX6_weave_243 : decode cX6_weave 243 = .ok (.bipush 48, 2) := by decide +kernel
theorem dX6_weave_245 : decode cX6_weave 245 = .ok (.bipush 6, 2) := by decide +kernel
theorem dX6_weave_247 : decode cX6_weave 247 = .ok (.iload_n 1, 1) := by decide +kernel
theorem dX6_weave_248 : decode cX6_weave 248 = .ok (.imul, 1) := by decide +kernel
theorem dX6_weave_249 : decode cX6_weave 249 = .ok (.iadd, 1) := by decide +kernel
theorem dX6_weave_250 : decode cX6_weave 250 = .ok (.iload_n 3, 1) := by decide +kernel
theorem dX6_weave_251 : decode cX6_weave 251 = .ok (.iadd, 1) := by decide +kernel
theorem dX6_weave_252 : decode cX6_weave 252 = .ok (.aload_n 0, 1) := by decide +kernel
theorem dX6_weave_253 : decode cX6_weave 253 = .ok (.getfield 62, 3) := by decide +kernel
theorem dX6_weave_256 : decode cX6_weave 256 = .ok (.aload_n 0, 1) := by decide +kernel
theorem dX6_weave_257 : decode cX6_weave 257 = .ok (.getfield 37, 3) := by decide +kernel
theorem dX6_weave_260 : decode cX6_weave 260 = .ok (.bipush 6, 2) := by decide +kernel
theorem dX6_weave_262 : decode cX6_weave 262 = .ok (.iload_n 1, 1) := by decide +kernel
theorem dX6_weave_263 : decode cX6_weave 263 = .ok (.imul, 1) := by decide +kernel
theorem dX6_weave_264 : decode cX6_weave 264 = .ok (.iload_n 3, 1) := by decide +kernel
theorem dX6_weave_265 : decode cX6_weave 265 = .ok (.iadd, 1) := by decide +kernel
theorem dX6_weave_266 : decode cX6_weave 266 = .ok (.iaload, 1) := by decide +kernel
theorem dX6_weave_267 : decode cX6_weave 267 = .ok (.iaload, 1) := by decide +kernel
theorem dX6_weave_268 : decode cX6_weave 268 = .ok (.iastore, 1) := by decide +kernel
theorem dX6_weave_269 : decode cX6_weave 269 = .ok (.aload_n 0, 1) := by decide +kernel
theorem dX6_weave_270 : decode cX6_weave 270 = .ok (.getfield 40, 3) := by decide +kernel
theorem dX6_weave_273 : decode cX6_weave 273 = .ok (.bipush 48, 2) := by decide +kernel
theorem dX6_weave_275 : decode cX6_weave 275 = .ok (.bipush 6, 2) := by decide +kernel
theorem dX6_weave_277 : decode cX6_weave 277 = .ok (.iload_n 1, 1) := by decide +kernel
theorem dX6_weave_278 : decode cX6_weave 278 = .ok (.imul, 1) := by decide +kernel
theorem dX6_weave_279 : decode cX6_weave 279 = .ok (.iadd, 1) := by decide +kernel
theorem dX6_weave_280 : decode cX6_weave 280 = .ok (.iload_n 3, 1) := by decide +kernel
theorem dX6_weave_281 : decode cX6_weave 281 = .ok (.iadd, 1) := by decide +kernel
theorem dX6_weave_282 : decode cX6_weave 282 = .ok (.aload_n 0, 1) := by decide +kernel
theorem dX6_weave_283 : decode cX6_weave 283 = .ok (.getfield 62, 3) := by decide +kernel
theorem dX6_weave_286 : decode cX6_weave 286 = .ok (.aload_n 0, 1) := by decide +kernel
theorem dX6_weave_287 : decode cX6_weave 287 = .ok (.getfield 40, 3) := by decide +kernel
theorem dX6_weave_290 : decode cX6_weave 290 = .ok (.bipush 6, 2) := by decide +kernel
theorem dX6_weave_292 : decode cX6_weave 292 = .ok (.iload_n 1, 1) := by decide +kernel
theorem dX6_weave_293 : decode cX6_weave 293 = .ok (.imul, 1) := by decide +kernel
theorem dX6_weave_294 : decode cX6_weave 294 = .ok (.iload_n 3, 1) := by decide +kernel
theorem dX6_weave_295 : decode cX6_weave 295 = .ok (.iadd, 1) := by decide +kernel
theorem dX6_weave_296 : decode cX6_weave 296 = .ok (.iaload, 1) := by decide +kernel
theorem dX6_weave_297 : decode cX6_weave 297 = .ok (.iaload, 1) := by decide +kernel
theorem dX6_weave_298 : decode cX6_weave 298 = .ok (.iastore, 1) := by decide +kernel
theorem dX6_weave_299 : decode cX6_weave 299 = .ok (.aload_n 0, 1) := by decide +kernel
theorem dX6_weave_300 : decode cX6_weave 300 = .ok (.getfield 43, 3) := by decide +kernel
theorem dX6_weave_303 : decode cX6_weave 303 = .ok (.bipush 48, 2) := by decide +kernel
theorem dX6_weave_305 : decode cX6_weave 305 = .ok (.bipush 6, 2) := by decide +kernel
theorem dX6_weave_307 : decode cX6_weave 307 = .ok (.iload_n 1, 1) := by decide +kernel
theorem dX6_weave_308 : decode cX6_weave 308 = .ok (.imul, 1) := by decide +kernel
theorem dX6_weave_309 : decode cX6_weave 309 = .ok (.iadd, 1) := by decide +kernel
theorem dX6_weave_310 : decode cX6_weave 310 = .ok (.iload_n 3, 1) := by decide +kernel
theorem dX6_weave_311 : decode cX6_weave 311 = .ok (.iadd, 1) := by decide +kernel
theorem dX6_weave_312 : decode cX6_weave 312 = .ok (.aload_n 0, 1) := by decide +kernel
theorem dX6_weave_313 : decode cX6_weave 313 = .ok (.getfield 62, 3) := by decide +kernel
theorem dX6_weave_316 : decode cX6_weave 316 = .ok (.aload_n 0, 1) := by decide +kernel
theorem dX6_weave_317 : decode cX6_weave 317 = .ok (.getfield 43, 3) := by decide +kernel
theorem dX6_weave_320 : decode cX6_weave 320 = .ok (.bipush 6, 2) := by decide +kernel
theorem dX6_weave_322 : decode cX6_weave 322 = .ok (.iload_n 1, 1) := by decide +kernel
theorem dX6_weave_323 : decode cX6_weave 323 = .ok (.imul, 1) := by decide +kernel
theorem dX6_weave_324 : decode cX6_weave 324 = .ok (.iload_n 3, 1) := by decide +kernel
theorem dX6_weave_325 : decode cX6_weave 325 = .ok (.iadd, 1) := by decide +kernel
theorem dX6_weave_326 : decode cX6_weave 326 = .ok (.iaload, 1) := by decide +kernel
theorem dX6_weave_327 : decode cX6_weave 327 = .ok (.iaload, 1) := by decide +kernel
theorem dX6_weave_328 : decode cX6_weave 328 = .ok (.iastore, 1) := by decide +kernel
theorem dX6_weave_329 : decode cX6_weave 329 = .ok (.iinc 3 1, 3) := by decide +kernel
theorem dX6_weave_332 : decode cX6_weave 332 = .ok (.goto (-103), 3) := by decide +kernel
theorem dX6_weave_335 : decode cX6_weave 335 = .ok (.return_, 1) := by decide +kernel
def gm_X6_weave_37 (fu : Nat) (K4 : Nat → Int32 → Int32 → Int32 → gx_H → Option gx_H) (a0 : Nat) (x1 : Int32) (x3 : Int32) (sx0 : Int32) (sx1 : Int32) (X : gx_H) : Option gx_H :=
  K4 a0 x1 (sx0 + sx1) (x3 + 1) X
set_option maxHeartbeats 1000000 in
set_option maxRecDepth 20000 in
theorem gt_X6_weave_37 {p : Program} {l : Launch} {e : Env} {s : State} {m : MethodId} {args : Array Value} {below : List Frame} {meth : Method} {c : Code} {D : gx_D} {X2 : gx_H}  (C : gx_C D gz_cl gz_at gz_tb gz_nb p s m meth c cX6_weave 6 RX6 none) (fu : Nat) (K4 : Nat → Int32 → Int32 → Int32 → gx_H → Option gx_H) (hK4 : ∀ (a0 : Nat) (x1 : Int32) (x2 : Int32) (x3 : Int32) (X : gx_H), K4 a0 x1 x2 x3 X = some X2 → gx_W D gz_cl 6 p l e (gx_rm 6 158 0 0) s m args below meth c 0 0 (MQ below (gx_Q D gz_cl none X2) args s 0 0 (gx_Z D)) X 4 [some (gx_r (some a0)), some (gx_i x1), some (gx_i x2), some (gx_i x3), none, none] []) (a0 : Nat) (x1 : Int32) (x3 : Int32) (sx0 : Int32) (sx1 : Int32) (X : gx_H) (h : gm_X6_weave_37 fu K4 a0 x1 x3 sx0 sx1 X = some X2) : gx_W D gz_cl 6 p l e (gx_rm 6 158 0 0) s m args below meth c 0 0 (MQ below (gx_Q D gz_cl none X2) args s 0 0 (gx_Z D)) X 37 [some (gx_r (some a0)), some (gx_i x1), none, some (gx_i x3), none, none] [gx_i sx1, gx_i sx0] := by
  unfold gm_X6_weave_37 at h
  refine gx_iadd C dX6_weave_37 ?_
  refine gx_istore_n (lv2 := [some (gx_r (some a0)), some (gx_i x1), some (gx_i (sx0 + sx1)), some (gx_i x3), none, none]) C dX6_weave_38 rfl (by decide) rfl ?_
  refine gx_iinc (v := (x3 + 1)) (lv2 := [some (gx_r (some a0)), some (gx_i x1), some (gx_i (sx0 + sx1)), some (gx_i (x3 + 1)), none, none]) C dX6_weave_39 rfl rfl (by decide) rfl ?_
  refine gx_goto (tgt := 4) C dX6_weave_42 (by decide) ?_
  exact hK4 a0 x1 (sx0 + sx1) (x3 + 1) X h
def gm_X6_weave_220 (fu : Nat) (K84 : Nat → Int32 → Int32 → gx_H → Option gx_H) (a0 : Nat) (x1 : Int32) (x3 : Int32) (sa0 : Nat) (sx1 : Int32) (sx2 : Int32) (X : gx_H) : Option gx_H :=
  (gx_pai X sa0 0 sx1 sx2).bind fun Xz1 =>
  K84 a0 x1 (x3 + 1) Xz1
set_option maxHeartbeats 1000000 in
set_option maxRecDepth 20000 in
theorem gt_X6_weave_220 {p : Program} {l : Launch} {e : Env} {s : State} {m : MethodId} {args : Array Value} {below : List Frame} {meth : Method} {c : Code} {D : gx_D} {X2 : gx_H}  (C : gx_C D gz_cl gz_at gz_tb gz_nb p s m meth c cX6_weave 6 RX6 none) (fu : Nat) (K84 : Nat → Int32 → Int32 → gx_H → Option gx_H) (hK84 : ∀ (a0 : Nat) (x1 : Int32) (x3 : Int32) (X : gx_H), K84 a0 x1 x3 X = some X2 → gx_W D gz_cl 6 p l e (gx_rm 6 158 0 0) s m args below meth c 0 0 (MQ below (gx_Q D gz_cl none X2) args s 0 0 (gx_Z D)) X 84 [some (gx_r (some a0)), some (gx_i x1), none, some (gx_i x3), none, none] []) (a0 : Nat) (x1 : Int32) (x3 : Int32) (sa0 : Nat) (sx1 : Int32) (sx2 : Int32) (X : gx_H) (h : gm_X6_weave_220 fu K84 a0 x1 x3 sa0 sx1 sx2 X = some X2) : gx_W D gz_cl 6 p l e (gx_rm 6 158 0 0) s m args below meth c 0 0 (MQ below (gx_Q D gz_cl none X2) args s 0 0 (gx_Z D)) X 220 [some (gx_r (some a0)), some (gx_i x1), none, some (gx_i x3), none, none] [gx_i sx2, gx_i sx1, gx_r (some sa0)] := by
  unfold gm_X6_weave_220 at h
  obtain ⟨Xz1, eXz1, h⟩ := gx_bd h
  refine gx_iast C (t := 0) rfl eXz1 dX6_weave_220 ?_
  refine gx_iinc (v := (x3 + 1)) (lv2 := [some (gx_r (some a0)), some (gx_i x1), none, some (gx_i (x3 + 1)), none, none]) C dX6_weave_221 rfl rfl (by decide) rfl ?_
  refine gx_goto (tgt := 84) C dX6_weave_224 (by decide) ?_
  exact hK84 a0 x1 (x3 + 1) Xz1 h
def gm_X6_weave_198 (fu : Nat) (K84 : Nat → Int32 → Int32 → gx_H → Option gx_H) (a0 : Nat) (x1 : Int32) (x3 : Int32) (x4 : Int32) (sa0 : Nat) (sx1 : Int32) (X : gx_H) : Option gx_H :=
  (gx_gd X a0 6 19).bind fun az2 =>
  (gx_gd X a0 6 8).bind fun az3 =>
  (gx_gai X az3 0 x4).bind fun vz4 =>
  (gx_gai X az2 0 vz4).bind fun vz5 =>
  gm_X6_weave_220 fu K84 a0 x1 x3 sa0 sx1 vz5 X
set_option maxHeartbeats 1000000 in
set_option maxRecDepth 20000 in
theorem gt_X6_weave_198 {p : Program} {l : Launch} {e : Env} {s : State} {m : MethodId} {args : Array Value} {below : List Frame} {meth : Method} {c : Code} {D : gx_D} {X2 : gx_H}  (C : gx_C D gz_cl gz_at gz_tb gz_nb p s m meth c cX6_weave 6 RX6 none) (fu : Nat) (K84 : Nat → Int32 → Int32 → gx_H → Option gx_H) (hK84 : ∀ (a0 : Nat) (x1 : Int32) (x3 : Int32) (X : gx_H), K84 a0 x1 x3 X = some X2 → gx_W D gz_cl 6 p l e (gx_rm 6 158 0 0) s m args below meth c 0 0 (MQ below (gx_Q D gz_cl none X2) args s 0 0 (gx_Z D)) X 84 [some (gx_r (some a0)), some (gx_i x1), none, some (gx_i x3), none, none] []) (a0 : Nat) (x1 : Int32) (x3 : Int32) (x4 : Int32) (sa0 : Nat) (sx1 : Int32) (X : gx_H) (h : gm_X6_weave_198 fu K84 a0 x1 x3 x4 sa0 sx1 X = some X2) : gx_W D gz_cl 6 p l e (gx_rm 6 158 0 0) s m args below meth c 0 0 (MQ below (gx_Q D gz_cl none X2) args s 0 0 (gx_Z D)) X 198 [some (gx_r (some a0)), some (gx_i x1), none, some (gx_i x3), some (gx_i x4), none] [gx_i sx1, gx_r (some sa0)] := by
  unfold gm_X6_weave_198 at h
  refine gx_aload_n C dX6_weave_198 rfl rfl ?_
  obtain ⟨az2, eaz2, h⟩ := gx_bd h
  refine gx_get C kcX6 19 (by decide) wl_516 (gx_gd_s eaz2) dX6_weave_199 ?_
  refine gx_aload_n C dX6_weave_202 rfl rfl ?_
  obtain ⟨az3, eaz3, h⟩ := gx_bd h
  refine gx_get C kcX6 8 (by decide) wl_505 (gx_gd_s eaz3) dX6_weave_203 ?_
  refine gx_iload C dX6_weave_206 rfl ?_
  obtain ⟨vz4, evz4, h⟩ := gx_bd h
  refine gx_iald C (t := 0) rfl evz4 dX6_weave_208 ?_
  obtain ⟨vz5, evz5, h⟩ := gx_bd h
  refine gx_iald C (t := 0) rfl evz5 dX6_weave_209 ?_
  refine gx_goto (tgt := 220) C dX6_weave_210 (by decide) ?_
  refine gx_sub (lv2 := [some (gx_r (some a0)), some (gx_i x1), none, some (gx_i x3), none, none]) [true, true, false, true, false, false] rfl ?_
  exact gt_X6_weave_220 C fu K84 hK84 a0 x1 x3 sa0 sx1 vz5 X h
def gm_X6_weave_156 (fu : Nat) (K84 : Nat → Int32 → Int32 → gx_H → Option gx_H) (a0 : Nat) (x1 : Int32) (x3 : Int32) (x4 : Int32) (x5 : Int32) (X : gx_H) : Option gx_H :=
  (gx_gd X a0 6 7).bind fun az6 =>
  (gx_gd X a0 6 7).bind fun az7 =>
  (gx_gai X az7 0 x4).bind fun vz8 =>
  (gx_pai X az6 0 x5 vz8).bind fun Xz9 =>
  (gx_gd Xz9 a0 6 8).bind fun az10 =>
  (gx_gd Xz9 a0 6 7).bind fun az11 =>
  (gx_gai Xz9 az11 0 x4).bind fun vz12 =>
  if vz12 = (1 : Int32) then (
  gm_X6_weave_198 fu K84 a0 x1 x3 x4 az10 x5 Xz9) else (
  (gx_gd Xz9 a0 6 7).bind fun az14 =>
  (gx_gai Xz9 az14 0 x4).bind fun vz15 =>
  if vz15 = (2 : Int32) then (
  gm_X6_weave_198 fu K84 a0 x1 x3 x4 az10 x5 Xz9) else (
  (gx_gd Xz9 a0 6 8).bind fun az17 =>
  (gx_gai Xz9 az17 0 x4).bind fun vz18 =>
  gm_X6_weave_220 fu K84 a0 x1 x3 az10 x5 vz18 Xz9))
set_option maxHeartbeats 1000000 in
set_option maxRecDepth 20000 in
theorem gt_X6_weave_156 {p : Program} {l : Launch} {e : Env} {s : State} {m : MethodId} {args : Array Value} {below : List Frame} {meth : Method} {c : Code} {D : gx_D} {X2 : gx_H}  (C : gx_C D gz_cl gz_at gz_tb gz_nb p s m meth c cX6_weave 6 RX6 none) (fu : Nat) (K84 : Nat → Int32 → Int32 → gx_H → Option gx_H) (hK84 : ∀ (a0 : Nat) (x1 : Int32) (x3 : Int32) (X : gx_H), K84 a0 x1 x3 X = some X2 → gx_W D gz_cl 6 p l e (gx_rm 6 158 0 0) s m args below meth c 0 0 (MQ below (gx_Q D gz_cl none X2) args s 0 0 (gx_Z D)) X 84 [some (gx_r (some a0)), some (gx_i x1), none, some (gx_i x3), none, none] []) (a0 : Nat) (x1 : Int32) (x3 : Int32) (x4 : Int32) (x5 : Int32) (X : gx_H) (h : gm_X6_weave_156 fu K84 a0 x1 x3 x4 x5 X = some X2) : gx_W D gz_cl 6 p l e (gx_rm 6 158 0 0) s m args below meth c 0 0 (MQ below (gx_Q D gz_cl none X2) args s 0 0 (gx_Z D)) X 156 [some (gx_r (some a0)), some (gx_i x1), none, some (gx_i x3), some (gx_i x4), some (gx_i x5)] [] := by
  unfold gm_X6_weave_156 at h
  refine gx_aload_n C dX6_weave_156 rfl rfl ?_
  obtain ⟨az6, eaz6, h⟩ := gx_bd h
  refine gx_get C kcX6 7 (by decide) wl_504 (gx_gd_s eaz6) dX6_weave_157 ?_
  refine gx_iload C dX6_weave_160 rfl ?_
  refine gx_aload_n C dX6_weave_162 rfl rfl ?_
  obtain ⟨az7, eaz7, h⟩ := gx_bd h
  refine gx_get C kcX6 7 (by decide) wl_504 (gx_gd_s eaz7) dX6_weave_163 ?_
  refine gx_iload C dX6_weave_166 rfl ?_
  obtain ⟨vz8, evz8, h⟩ := gx_bd h
  refine gx_iald C (t := 0) rfl evz8 dX6_weave_168 ?_
  obtain ⟨Xz9, eXz9, h⟩ := gx_bd h
  refine gx_iast C (t := 0) rfl eXz9 dX6_weave_169 ?_
  refine gx_aload_n C dX6_weave_170 rfl rfl ?_
  obtain ⟨az10, eaz10, h⟩ := gx_bd h
  refine gx_get C kcX6 8 (by decide) wl_505 (gx_gd_s eaz10) dX6_weave_171 ?_
  refine gx_iload C dX6_weave_174 rfl ?_
  refine gx_aload_n C dX6_weave_176 rfl rfl ?_
  obtain ⟨az11, eaz11, h⟩ := gx_bd h
  refine gx_get C kcX6 7 (by decide) wl_504 (gx_gd_s eaz11) dX6_weave_177 ?_
  refine gx_iload C dX6_weave_180 rfl ?_
  obtain ⟨vz12, evz12, h⟩ := gx_bd h
  refine gx_iald C (t := 0) rfl evz12 dX6_weave_182 ?_
  refine gx_iconst (v := 1) C dX6_weave_183 (by decide) ?_
  refine gx_icmp_eq (tgt := 198) C dX6_weave_184 (by decide) (fun qz13 => ?_) (fun qz13 => ?_)
  · rw [if_pos qz13] at h
    refine gx_sub (lv2 := [some (gx_r (some a0)), some (gx_i x1), none, some (gx_i x3), some (gx_i x4), none]) [true, true, false, true, true, false] rfl ?_
    exact gt_X6_weave_198 C fu K84 hK84 a0 x1 x3 x4 az10 x5 Xz9 h
  · rw [if_neg qz13] at h
    refine gx_aload_n C dX6_weave_187 rfl rfl ?_
    obtain ⟨az14, eaz14, h⟩ := gx_bd h
    refine gx_get C kcX6 7 (by decide) wl_504 (gx_gd_s eaz14) dX6_weave_188 ?_
    refine gx_iload C dX6_weave_191 rfl ?_
    obtain ⟨vz15, evz15, h⟩ := gx_bd h
    refine gx_iald C (t := 0) rfl evz15 dX6_weave_193 ?_
    refine gx_iconst (v := 2) C dX6_weave_194 (by decide) ?_
    refine gx_icmp_ne (tgt := 213) C dX6_weave_195 (by decide) (fun qz16 => ?_) (fun qz16 => ?_)
    · rw [if_neg qz16] at h
      refine gx_aload_n C dX6_weave_213 rfl rfl ?_
      obtain ⟨az17, eaz17, h⟩ := gx_bd h
      refine gx_get C kcX6 8 (by decide) wl_505 (gx_gd_s eaz17) dX6_weave_214 ?_
      refine gx_iload C dX6_weave_217 rfl ?_
      obtain ⟨vz18, evz18, h⟩ := gx_bd h
      refine gx_iald C (t := 0) rfl evz18 dX6_weave_219 ?_
      refine gx_sub (lv2 := [some (gx_r (some a0)), some (gx_i x1), none, some (gx_i x3), none, none]) [true, true, false, true, false, false] rfl ?_
      exact gt_X6_weave_220 C fu K84 hK84 a0 x1 x3 az10 x5 vz18 Xz9 h
    · rw [if_pos qz16] at h
      refine gx_sub (lv2 := [some (gx_r (some a0)), some (gx_i x1), none, some (gx_i x3), some (gx_i x4), none]) [true, true, false, true, true, false] rfl ?_
      exact gt_X6_weave_198 C fu K84 hK84 a0 x1 x3 x4 az10 x5 Xz9 h
def gm_X6_weave_229 (fu : Nat) : Nat → Nat → Int32 → Int32 → gx_H → Option gx_H
  | 0, _, _, _, _ => none
  | n + 1, a0, x1, x3, X =>
    (gx_gd X a0 6 6).bind fun az19 =>
    (gx_gai X az19 0 x1).bind fun vz20 =>
    if vz20 ≤ x3 then (
    some X) else (
    (gx_gd X a0 6 9).bind fun az22 =>
    (gx_gd X a0 6 19).bind fun az23 =>
    (gx_gd X a0 6 9).bind fun az24 =>
    (gx_gai X az24 0 (((6 : Int32) * x1) + x3)).bind fun vz25 =>
    (gx_gai X az23 0 vz25).bind fun vz26 =>
    (gx_pai X az22 0 (((48 : Int32) + ((6 : Int32) * x1)) + x3) vz26).bind fun Xz27 =>
    (gx_gd Xz27 a0 6 10).bind fun az28 =>
    (gx_gd Xz27 a0 6 19).bind fun az29 =>
    (gx_gd Xz27 a0 6 10).bind fun az30 =>
    (gx_gai Xz27 az30 0 (((6 : Int32) * x1) + x3)).bind fun vz31 =>
    (gx_gai Xz27 az29 0 vz31).bind fun vz32 =>
    (gx_pai Xz27 az28 0 (((48 : Int32) + ((6 : Int32) * x1)) + x3) vz32).bind fun Xz33 =>
    (gx_gd Xz33 a0 6 11).bind fun az34 =>
    (gx_gd Xz33 a0 6 19).bind fun az35 =>
    (gx_gd Xz33 a0 6 11).bind fun az36 =>
    (gx_gai Xz33 az36 0 (((6 : Int32) * x1) + x3)).bind fun vz37 =>
    (gx_gai Xz33 az35 0 vz37).bind fun vz38 =>
    (gx_pai Xz33 az34 0 (((48 : Int32) + ((6 : Int32) * x1)) + x3) vz38).bind fun Xz39 =>
    (gm_X6_weave_229 fu  n) a0 x1 (x3 + 1) Xz39)
set_option maxHeartbeats 1000000 in
set_option maxRecDepth 20000 in
theorem gt_X6_weave_229 {p : Program} {l : Launch} {e : Env} {s : State} {m : MethodId} {args : Array Value} {below : List Frame} {meth : Method} {c : Code} {D : gx_D} {X2 : gx_H}  (C : gx_C D gz_cl gz_at gz_tb gz_nb p s m meth c cX6_weave 6 RX6 none) (fu : Nat) : ∀ (n : Nat) (a0 : Nat) (x1 : Int32) (x3 : Int32) (X : gx_H) , gm_X6_weave_229 fu  n a0 x1 x3 X = some X2 → gx_W D gz_cl 6 p l e (gx_rm 6 158 0 0) s m args below meth c 0 0 (MQ below (gx_Q D gz_cl none X2) args s 0 0 (gx_Z D)) X 229 [some (gx_r (some a0)), some (gx_i x1), none, some (gx_i x3), none, none] [] := by
  intro n
  induction n with
  | zero =>
    intro a0 x1 x3 X h
    have h : none = some _ := h
    cases h
  | succ n ih =>
    intro a0 x1 x3 X h
    rw [gm_X6_weave_229] at h
    refine gx_iload_n C dX6_weave_229 rfl rfl ?_
    refine gx_aload_n C dX6_weave_230 rfl rfl ?_
    obtain ⟨az19, eaz19, h⟩ := gx_bd h
    refine gx_get C kcX6 6 (by decide) wl_503 (gx_gd_s eaz19) dX6_weave_231 ?_
    refine gx_iload_n C dX6_weave_234 rfl rfl ?_
    obtain ⟨vz20, evz20, h⟩ := gx_bd h
    refine gx_iald C (t := 0) rfl evz20 dX6_weave_235 ?_
    refine gx_icmp_ge (tgt := 335) C dX6_weave_236 (by decide) (fun qz21 => ?_) (fun qz21 => ?_)
    · rw [if_pos qz21] at h
      cases h
      exact gx_vret C dX6_weave_335
    · rw [if_neg qz21] at h
      refine gx_aload_n C dX6_weave_239 rfl rfl ?_
      obtain ⟨az22, eaz22, h⟩ := gx_bd h
      refine gx_get C kcX6 9 (by decide) wl_506 (gx_gd_s eaz22) dX6_weave_240 ?_
      refine gx_bipush (v := 48) C dX6_weave_243 (by decide) ?_
      refine gx_bipush (v := 6) C dX6_weave_245 (by decide) ?_
      refine gx_iload_n C dX6_weave_247 rfl rfl ?_
      refine gx_imul C dX6_weave_248 ?_
      refine gx_iadd C dX6_weave_249 ?_
      refine gx_iload_n C dX6_weave_250 rfl rfl ?_
      refine gx_iadd C dX6_weave_251 ?_
      refine gx_aload_n C dX6_weave_252 rfl rfl ?_
      obtain ⟨az23, eaz23, h⟩ := gx_bd h
      refine gx_get C kcX6 19 (by decide) wl_516 (gx_gd_s eaz23) dX6_weave_253 ?_
      refine gx_aload_n C dX6_weave_256 rfl rfl ?_
      obtain ⟨az24, eaz24, h⟩ := gx_bd h
      refine gx_get C kcX6 9 (by decide) wl_506 (gx_gd_s eaz24) dX6_weave_257 ?_
      refine gx_bipush (v := 6) C dX6_weave_260 (by decide) ?_
      refine gx_iload_n C dX6_weave_262 rfl rfl ?_
      refine gx_imul C dX6_weave_263 ?_
      refine gx_iload_n C dX6_weave_264 rfl rfl ?_
      refine gx_iadd C dX6_weave_265 ?_
      obtain ⟨vz25, evz25, h⟩ := gx_bd h
      refine gx_iald C (t := 0) rfl evz25 dX6_weave_266 ?_
      obtain ⟨vz26, evz26, h⟩ := gx_bd h
      refine gx_iald C (t := 0) rfl evz26 dX6_weave_267 ?_
      obtain ⟨Xz27, eXz27, h⟩ := gx_bd h
      refine gx_iast C (t := 0) rfl eXz27 dX6_weave_268 ?_
      refine gx_aload_n C dX6_weave_269 rfl rfl ?_
      obtain ⟨az28, eaz28, h⟩ := gx_bd h
      refine gx_get C kcX6 10 (by decide) wl_507 (gx_gd_s eaz28) dX6_weave_270 ?_
      refine gx_bipush (v := 48) C dX6_weave_273 (by decide) ?_
      refine gx_bipush (v := 6) C dX6_weave_275 (by decide) ?_
      refine gx_iload_n C dX6_weave_277 rfl rfl ?_
      refine gx_imul C dX6_weave_278 ?_
      refine gx_iadd C dX6_weave_279 ?_
      refine gx_iload_n C dX6_weave_280 rfl rfl ?_
      refine gx_iadd C dX6_weave_281 ?_
      refine gx_aload_n C dX6_weave_282 rfl rfl ?_
      obtain ⟨az29, eaz29, h⟩ := gx_bd h
      refine gx_get C kcX6 19 (by decide) wl_516 (gx_gd_s eaz29) dX6_weave_283 ?_
      refine gx_aload_n C dX6_weave_286 rfl rfl ?_
      obtain ⟨az30, eaz30, h⟩ := gx_bd h
      refine gx_get C kcX6 10 (by decide) wl_507 (gx_gd_s eaz30) dX6_weave_287 ?_
      refine gx_bipush (v := 6) C dX6_weave_290 (by decide) ?_
      refine gx_iload_n C dX6_weave_292 rfl rfl ?_
      refine gx_imul C dX6_weave_293 ?_
      refine gx_iload_n C dX6_weave_294 rfl rfl ?_
      refine gx_iadd C dX6_weave_295 ?_
      obtain ⟨vz31, evz31, h⟩ := gx_bd h
      refine gx_iald C (t := 0) rfl evz31 dX6_weave_296 ?_
      obtain ⟨vz32, evz32, h⟩ := gx_bd h
      refine gx_iald C (t := 0) rfl evz32 dX6_weave_297 ?_
      obtain ⟨Xz33, eXz33, h⟩ := gx_bd h
      refine gx_iast C (t := 0) rfl eXz33 dX6_weave_298 ?_
      refine gx_aload_n C dX6_weave_299 rfl rfl ?_
      obtain ⟨az34, eaz34, h⟩ := gx_bd h
      refine gx_get C kcX6 11 (by decide) wl_508 (gx_gd_s eaz34) dX6_weave_300 ?_
      refine gx_bipush (v := 48) C dX6_weave_303 (by decide) ?_
      refine gx_bipush (v := 6) C dX6_weave_305 (by decide) ?_
      refine gx_iload_n C dX6_weave_307 rfl rfl ?_
      refine gx_imul C dX6_weave_308 ?_
      refine gx_iadd C dX6_weave_309 ?_
      refine gx_iload_n C dX6_weave_310 rfl rfl ?_
      refine gx_iadd C dX6_weave_311 ?_
      refine gx_aload_n C dX6_weave_312 rfl rfl ?_
      obtain ⟨az35, eaz35, h⟩ := gx_bd h
      refine gx_get C kcX6 19 (by decide) wl_516 (gx_gd_s eaz35) dX6_weave_313 ?_
      refine gx_aload_n C dX6_weave_316 rfl rfl ?_
      obtain ⟨az36, eaz36, h⟩ := gx_bd h
      refine gx_get C kcX6 11 (by decide) wl_508 (gx_gd_s eaz36) dX6_weave_317 ?_
      refine gx_bipush (v := 6) C dX6_weave_320 (by decide) ?_
      refine gx_iload_n C dX6_weave_322 rfl rfl ?_
      refine gx_imul C dX6_weave_323 ?_
      refine gx_iload_n C dX6_weave_324 rfl rfl ?_
      refine gx_iadd C dX6_weave_325 ?_
      obtain ⟨vz37, evz37, h⟩ := gx_bd h
      refine gx_iald C (t := 0) rfl evz37 dX6_weave_326 ?_
      obtain ⟨vz38, evz38, h⟩ := gx_bd h
      refine gx_iald C (t := 0) rfl evz38 dX6_weave_327 ?_
      obtain ⟨Xz39, eXz39, h⟩ := gx_bd h
      refine gx_iast C (t := 0) rfl eXz39 dX6_weave_328 ?_
      refine gx_iinc (v := (x3 + 1)) (lv2 := [some (gx_r (some a0)), some (gx_i x1), none, some (gx_i (x3 + 1)), none, none]) C dX6_weave_329 rfl rfl (by decide) rfl ?_
      refine gx_goto (tgt := 229) C dX6_weave_332 (by decide) ?_
      exact ih a0 x1 (x3 + 1) Xz39 h
def gm_X6_weave_84 (fu : Nat) : Nat → Nat → Int32 → Int32 → gx_H → Option gx_H
  | 0, _, _, _, _ => none
  | n + 1, a0, x1, x3, X =>
    (gx_gd X a0 6 5).bind fun az40 =>
    (gx_gai X az40 0 x1).bind fun vz41 =>
    if vz41 ≤ x3 then (
    gm_X6_weave_229 fu  fu a0 x1 (0 : Int32) X) else (
    (gx_gd X a0 6 19).bind fun az43 =>
    (gx_gai X az43 0 x3).bind fun vz44 =>
    gx_ob X a0 6 <|
    gx_b2 (gm_X6_lacks fu a0 (0 : Int32) x1 x3 X) fun vz47 Xz46 =>
    if vz47 = 0 then (
    gm_X6_weave_156 fu (gm_X6_weave_84 fu  n) a0 x1 x3 (((200 : Int32) * x1) + x3) (((1600 : Int32) + ((200 : Int32) * x1)) + vz44) Xz46) else (
    (gx_gd Xz46 a0 6 7).bind fun az49 =>
    (gx_pai Xz46 az49 0 (((1600 : Int32) + ((200 : Int32) * x1)) + vz44) (5 : Int32)).bind fun Xz50 =>
    (gx_gd Xz50 a0 6 8).bind fun az51 =>
    (gx_gd Xz50 a0 6 8).bind fun az52 =>
    (gx_gai Xz50 az52 0 (((200 : Int32) * x1) + x3)).bind fun vz53 =>
    (gx_pai Xz50 az51 0 (((1600 : Int32) + ((200 : Int32) * x1)) + vz44) vz53).bind fun Xz54 =>
    gm_X6_weave_156 fu (gm_X6_weave_84 fu  n) a0 x1 x3 (((200 : Int32) * x1) + x3) ((((1600 : Int32) + ((200 : Int32) * x1)) + vz44) + 1) Xz54))
set_option maxHeartbeats 1000000 in
set_option maxRecDepth 20000 in
theorem gt_X6_weave_84 {p : Program} {l : Launch} {e : Env} {s : State} {m : MethodId} {args : Array Value} {below : List Frame} {meth : Method} {c : Code} {D : gx_D} {X2 : gx_H}  (C : gx_C D gz_cl gz_at gz_tb gz_nb p s m meth c cX6_weave 6 RX6 none) (fu : Nat) : ∀ (n : Nat) (a0 : Nat) (x1 : Int32) (x3 : Int32) (X : gx_H) , gm_X6_weave_84 fu  n a0 x1 x3 X = some X2 → gx_W D gz_cl 6 p l e (gx_rm 6 158 0 0) s m args below meth c 0 0 (MQ below (gx_Q D gz_cl none X2) args s 0 0 (gx_Z D)) X 84 [some (gx_r (some a0)), some (gx_i x1), none, some (gx_i x3), none, none] [] := by
  intro n
  induction n with
  | zero =>
    intro a0 x1 x3 X h
    have h : none = some _ := h
    cases h
  | succ n ih =>
    intro a0 x1 x3 X h
    rw [gm_X6_weave_84] at h
    refine gx_iload_n C dX6_weave_84 rfl rfl ?_
    refine gx_aload_n C dX6_weave_85 rfl rfl ?_
    obtain ⟨az40, eaz40, h⟩ := gx_bd h
    refine gx_get C kcX6 5 (by decide) wl_502 (gx_gd_s eaz40) dX6_weave_86 ?_
    refine gx_iload_n C dX6_weave_89 rfl rfl ?_
    obtain ⟨vz41, evz41, h⟩ := gx_bd h
    refine gx_iald C (t := 0) rfl evz41 dX6_weave_90 ?_
    refine gx_icmp_ge (tgt := 227) C dX6_weave_91 (by decide) (fun qz42 => ?_) (fun qz42 => ?_)
    · rw [if_pos qz42] at h
      refine gx_iconst (v := 0) C dX6_weave_227 (by decide) ?_
      refine gx_istore_n (lv2 := [some (gx_r (some a0)), some (gx_i x1), none, some (gx_i (0 : Int32)), none, none]) C dX6_weave_228 rfl (by decide) rfl ?_
      exact gt_X6_weave_229 C fu  fu a0 x1 (0 : Int32) X h
    · rw [if_neg qz42] at h
      refine gx_sipush (v := 200) C dX6_weave_94 (by decide) ?_
      refine gx_iload_n C dX6_weave_97 rfl rfl ?_
      refine gx_imul C dX6_weave_98 ?_
      refine gx_iload_n C dX6_weave_99 rfl rfl ?_
      refine gx_iadd C dX6_weave_100 ?_
      refine gx_istore (lv2 := [some (gx_r (some a0)), some (gx_i x1), none, some (gx_i x3), some (gx_i (((200 : Int32) * x1) + x3)), none]) C dX6_weave_101 (by decide) rfl ?_
      refine gx_sipush (v := 1600) C dX6_weave_103 (by decide) ?_
      refine gx_sipush (v := 200) C dX6_weave_106 (by decide) ?_
      refine gx_iload_n C dX6_weave_109 rfl rfl ?_
      refine gx_imul C dX6_weave_110 ?_
      refine gx_iadd C dX6_weave_111 ?_
      refine gx_aload_n C dX6_weave_112 rfl rfl ?_
      obtain ⟨az43, eaz43, h⟩ := gx_bd h
      refine gx_get C kcX6 19 (by decide) wl_516 (gx_gd_s eaz43) dX6_weave_113 ?_
      refine gx_iload_n C dX6_weave_116 rfl rfl ?_
      obtain ⟨vz44, evz44, h⟩ := gx_bd h
      refine gx_iald C (t := 0) rfl evz44 dX6_weave_117 ?_
      refine gx_iadd C dX6_weave_118 ?_
      refine gx_istore (lv2 := [some (gx_r (some a0)), some (gx_i x1), none, some (gx_i x3), some (gx_i (((200 : Int32) * x1) + x3)), some (gx_i (((1600 : Int32) + ((200 : Int32) * x1)) + vz44))]) C dX6_weave_119 (by decide) rfl ?_
      refine gx_aload_n C dX6_weave_121 rfl rfl ?_
      refine gx_iconst (v := 0) C dX6_weave_122 (by decide) ?_
      refine gx_iload_n C dX6_weave_123 rfl rfl ?_
      refine gx_iload_n C dX6_weave_124 rfl rfl ?_
      obtain ⟨hoz45, h⟩ := gx_obs h
      obtain ⟨vz47, Xz46, eXz46, h⟩ := gx_bd2 h
      refine gx_callV (As := [gx_i (0 : Int32), gx_i x1, gx_i x3]) (st := []) (stk2 := [gx_i vz47]) C cd_X6_lacks wl_619 ws_X6_lacks wl_617 rfl hoz45 (gc_X6_lacks fu a0 (0 : Int32) x1 x3 X vz47 Xz46 eXz46) rfl ⟨Nat.le_of_ble_eq_true rfl, Nat.le_of_ble_eq_true rfl⟩ ⟨Nat.le_of_ble_eq_true rfl, Nat.le_of_ble_eq_true rfl⟩ (Nat.le_of_ble_eq_true rfl) rfl rfl dX6_weave_125 ?_
      refine gx_if_eq (tgt := 156) C dX6_weave_128 (by decide) (fun qz48 => ?_) (fun qz48 => ?_)
      · rw [if_pos qz48] at h
        exact gt_X6_weave_156 C fu (gm_X6_weave_84 fu  n) ih a0 x1 x3 (((200 : Int32) * x1) + x3) (((1600 : Int32) + ((200 : Int32) * x1)) + vz44) Xz46 h
      · rw [if_neg qz48] at h
        refine gx_aload_n C dX6_weave_131 rfl rfl ?_
        obtain ⟨az49, eaz49, h⟩ := gx_bd h
        refine gx_get C kcX6 7 (by decide) wl_504 (gx_gd_s eaz49) dX6_weave_132 ?_
        refine gx_iload C dX6_weave_135 rfl ?_
        refine gx_iconst (v := 5) C dX6_weave_137 (by decide) ?_
        obtain ⟨Xz50, eXz50, h⟩ := gx_bd h
        refine gx_iast C (t := 0) rfl eXz50 dX6_weave_138 ?_
        refine gx_aload_n C dX6_weave_139 rfl rfl ?_
        obtain ⟨az51, eaz51, h⟩ := gx_bd h
        refine gx_get C kcX6 8 (by decide) wl_505 (gx_gd_s eaz51) dX6_weave_140 ?_
        refine gx_iload C dX6_weave_143 rfl ?_
        refine gx_aload_n C dX6_weave_145 rfl rfl ?_
        obtain ⟨az52, eaz52, h⟩ := gx_bd h
        refine gx_get C kcX6 8 (by decide) wl_505 (gx_gd_s eaz52) dX6_weave_146 ?_
        refine gx_iload C dX6_weave_149 rfl ?_
        obtain ⟨vz53, evz53, h⟩ := gx_bd h
        refine gx_iald C (t := 0) rfl evz53 dX6_weave_151 ?_
        obtain ⟨Xz54, eXz54, h⟩ := gx_bd h
        refine gx_iast C (t := 0) rfl eXz54 dX6_weave_152 ?_
        refine gx_iinc (v := ((((1600 : Int32) + ((200 : Int32) * x1)) + vz44) + 1)) (lv2 := [some (gx_r (some a0)), some (gx_i x1), none, some (gx_i x3), some (gx_i (((200 : Int32) * x1) + x3)), some (gx_i ((((1600 : Int32) + ((200 : Int32) * x1)) + vz44) + 1))]) C dX6_weave_153 rfl rfl (by decide) rfl ?_
        exact gt_X6_weave_156 C fu (gm_X6_weave_84 fu  n) ih a0 x1 x3 (((200 : Int32) * x1) + x3) ((((1600 : Int32) + ((200 : Int32) * x1)) + vz44) + 1) Xz54 h
def gm_X6_weave_4 (fu : Nat) : Nat → Nat → Int32 → Int32 → Int32 → gx_H → Option gx_H
  | 0, _, _, _, _, _ => none
  | n + 1, a0, x1, x2, x3, X =>
    (gx_gd X a0 6 5).bind fun az55 =>
    (gx_gai X az55 0 x1).bind fun vz56 =>
    if vz56 ≤ x3 then (
    (gx_gd X a0 6 19).bind fun az58 =>
    (gx_gd X a0 6 5).bind fun az59 =>
    (gx_gai X az59 0 x1).bind fun vz60 =>
    (gx_pai X az58 0 vz60 x2).bind fun Xz61 =>
    (gx_gd Xz61 a0 6 5).bind fun az62 =>
    (gx_pai Xz61 az62 0 ((8 : Int32) + x1) x2).bind fun Xz63 =>
    (gx_gd Xz63 a0 6 6).bind fun az64 =>
    (gx_gd Xz63 a0 6 6).bind fun az65 =>
    (gx_gai Xz63 az65 0 x1).bind fun vz66 =>
    (gx_pai Xz63 az64 0 ((8 : Int32) + x1) vz66).bind fun Xz67 =>
    gm_X6_weave_84 fu  fu a0 x1 (0 : Int32) Xz67) else (
    (gx_gd X a0 6 19).bind fun az68 =>
    (gx_pai X az68 0 x3 x2).bind fun Xz69 =>
    gx_ob Xz69 a0 6 <|
    gx_b2 (gm_X6_lacks fu a0 (0 : Int32) x1 x3 Xz69) fun vz72 Xz71 =>
    if vz72 = 0 then (
    gm_X6_weave_37 fu (gm_X6_weave_4 fu  n) a0 x1 x3 x2 (1 : Int32) Xz71) else (
    gm_X6_weave_37 fu (gm_X6_weave_4 fu  n) a0 x1 x3 x2 (2 : Int32) Xz71))
set_option maxHeartbeats 1000000 in
set_option maxRecDepth 20000 in
theorem gt_X6_weave_4 {p : Program} {l : Launch} {e : Env} {s : State} {m : MethodId} {args : Array Value} {below : List Frame} {meth : Method} {c : Code} {D : gx_D} {X2 : gx_H}  (C : gx_C D gz_cl gz_at gz_tb gz_nb p s m meth c cX6_weave 6 RX6 none) (fu : Nat) : ∀ (n : Nat) (a0 : Nat) (x1 : Int32) (x2 : Int32) (x3 : Int32) (X : gx_H) , gm_X6_weave_4 fu  n a0 x1 x2 x3 X = some X2 → gx_W D gz_cl 6 p l e (gx_rm 6 158 0 0) s m args below meth c 0 0 (MQ below (gx_Q D gz_cl none X2) args s 0 0 (gx_Z D)) X 4 [some (gx_r (some a0)), some (gx_i x1), some (gx_i x2), some (gx_i x3), none, none] [] := by
  intro n
  induction n with
  | zero =>
    intro a0 x1 x2 x3 X h
    have h : none = some _ := h
    cases h
  | succ n ih =>
    intro a0 x1 x2 x3 X h
    rw [gm_X6_weave_4] at h
    refine gx_iload_n C dX6_weave_4 rfl rfl ?_
    refine gx_aload_n C dX6_weave_5 rfl rfl ?_
    obtain ⟨az55, eaz55, h⟩ := gx_bd h
    refine gx_get C kcX6 5 (by decide) wl_502 (gx_gd_s eaz55) dX6_weave_6 ?_
    refine gx_iload_n C dX6_weave_9 rfl rfl ?_
    obtain ⟨vz56, evz56, h⟩ := gx_bd h
    refine gx_iald C (t := 0) rfl evz56 dX6_weave_10 ?_
    refine gx_icmp_ge (tgt := 45) C dX6_weave_11 (by decide) (fun qz57 => ?_) (fun qz57 => ?_)
    · rw [if_pos qz57] at h
      refine gx_aload_n C dX6_weave_45 rfl rfl ?_
      obtain ⟨az58, eaz58, h⟩ := gx_bd h
      refine gx_get C kcX6 19 (by decide) wl_516 (gx_gd_s eaz58) dX6_weave_46 ?_
      refine gx_aload_n C dX6_weave_49 rfl rfl ?_
      obtain ⟨az59, eaz59, h⟩ := gx_bd h
      refine gx_get C kcX6 5 (by decide) wl_502 (gx_gd_s eaz59) dX6_weave_50 ?_
      refine gx_iload_n C dX6_weave_53 rfl rfl ?_
      obtain ⟨vz60, evz60, h⟩ := gx_bd h
      refine gx_iald C (t := 0) rfl evz60 dX6_weave_54 ?_
      refine gx_iload_n C dX6_weave_55 rfl rfl ?_
      obtain ⟨Xz61, eXz61, h⟩ := gx_bd h
      refine gx_iast C (t := 0) rfl eXz61 dX6_weave_56 ?_
      refine gx_aload_n C dX6_weave_57 rfl rfl ?_
      obtain ⟨az62, eaz62, h⟩ := gx_bd h
      refine gx_get C kcX6 5 (by decide) wl_502 (gx_gd_s eaz62) dX6_weave_58 ?_
      refine gx_bipush (v := 8) C dX6_weave_61 (by decide) ?_
      refine gx_iload_n C dX6_weave_63 rfl rfl ?_
      refine gx_iadd C dX6_weave_64 ?_
      refine gx_iload_n C dX6_weave_65 rfl rfl ?_
      obtain ⟨Xz63, eXz63, h⟩ := gx_bd h
      refine gx_iast C (t := 0) rfl eXz63 dX6_weave_66 ?_
      refine gx_aload_n C dX6_weave_67 rfl rfl ?_
      obtain ⟨az64, eaz64, h⟩ := gx_bd h
      refine gx_get C kcX6 6 (by decide) wl_503 (gx_gd_s eaz64) dX6_weave_68 ?_
      refine gx_bipush (v := 8) C dX6_weave_71 (by decide) ?_
      refine gx_iload_n C dX6_weave_73 rfl rfl ?_
      refine gx_iadd C dX6_weave_74 ?_
      refine gx_aload_n C dX6_weave_75 rfl rfl ?_
      obtain ⟨az65, eaz65, h⟩ := gx_bd h
      refine gx_get C kcX6 6 (by decide) wl_503 (gx_gd_s eaz65) dX6_weave_76 ?_
      refine gx_iload_n C dX6_weave_79 rfl rfl ?_
      obtain ⟨vz66, evz66, h⟩ := gx_bd h
      refine gx_iald C (t := 0) rfl evz66 dX6_weave_80 ?_
      obtain ⟨Xz67, eXz67, h⟩ := gx_bd h
      refine gx_iast C (t := 0) rfl eXz67 dX6_weave_81 ?_
      refine gx_iconst (v := 0) C dX6_weave_82 (by decide) ?_
      refine gx_istore_n (lv2 := [some (gx_r (some a0)), some (gx_i x1), some (gx_i x2), some (gx_i (0 : Int32)), none, none]) C dX6_weave_83 rfl (by decide) rfl ?_
      refine gx_sub (lv2 := [some (gx_r (some a0)), some (gx_i x1), none, some (gx_i (0 : Int32)), none, none]) [true, true, false, true, false, false] rfl ?_
      exact gt_X6_weave_84 C fu  fu a0 x1 (0 : Int32) Xz67 h
    · rw [if_neg qz57] at h
      refine gx_aload_n C dX6_weave_14 rfl rfl ?_
      obtain ⟨az68, eaz68, h⟩ := gx_bd h
      refine gx_get C kcX6 19 (by decide) wl_516 (gx_gd_s eaz68) dX6_weave_15 ?_
      refine gx_iload_n C dX6_weave_18 rfl rfl ?_
      refine gx_iload_n C dX6_weave_19 rfl rfl ?_
      obtain ⟨Xz69, eXz69, h⟩ := gx_bd h
      refine gx_iast C (t := 0) rfl eXz69 dX6_weave_20 ?_
      refine gx_iload_n C dX6_weave_21 rfl rfl ?_
      refine gx_aload_n C dX6_weave_22 rfl rfl ?_
      refine gx_iconst (v := 0) C dX6_weave_23 (by decide) ?_
      refine gx_iload_n C dX6_weave_24 rfl rfl ?_
      refine gx_iload_n C dX6_weave_25 rfl rfl ?_
      obtain ⟨hoz70, h⟩ := gx_obs h
      obtain ⟨vz72, Xz71, eXz71, h⟩ := gx_bd2 h
      refine gx_callV (As := [gx_i (0 : Int32), gx_i x1, gx_i x3]) (st := [gx_i x2]) (stk2 := [gx_i vz72, gx_i x2]) C cd_X6_lacks wl_619 ws_X6_lacks wl_617 rfl hoz70 (gc_X6_lacks fu a0 (0 : Int32) x1 x3 Xz69 vz72 Xz71 eXz71) rfl ⟨Nat.le_of_ble_eq_true rfl, Nat.le_of_ble_eq_true rfl⟩ ⟨Nat.le_of_ble_eq_true rfl, Nat.le_of_ble_eq_true rfl⟩ (Nat.le_of_ble_eq_true rfl) rfl rfl dX6_weave_26 ?_
      refine gx_if_eq (tgt := 36) C dX6_weave_29 (by decide) (fun qz73 => ?_) (fun qz73 => ?_)
      · rw [if_pos qz73] at h
        refine gx_iconst (v := 1) C dX6_weave_36 (by decide) ?_
        refine gx_sub (lv2 := [some (gx_r (some a0)), some (gx_i x1), none, some (gx_i x3), none, none]) [true, true, false, true, false, false] rfl ?_
        exact gt_X6_weave_37 C fu (gm_X6_weave_4 fu  n) ih a0 x1 x3 x2 (1 : Int32) Xz71 h
      · rw [if_neg qz73] at h
        refine gx_iconst (v := 2) C dX6_weave_32 (by decide) ?_
        refine gx_goto (tgt := 37) C dX6_weave_33 (by decide) ?_
        refine gx_sub (lv2 := [some (gx_r (some a0)), some (gx_i x1), none, some (gx_i x3), none, none]) [true, true, false, true, false, false] rfl ?_
        exact gt_X6_weave_37 C fu (gm_X6_weave_4 fu  n) ih a0 x1 x3 x2 (2 : Int32) Xz71 h
def gm_X6_weave (fu : Nat) (this : Nat) (p_0 : Int32) (X : gx_H) : Option gx_H :=
  gm_X6_weave_4 fu  fu this p_0 (0 : Int32) (0 : Int32) X
set_option maxHeartbeats 1000000 in
set_option maxRecDepth 20000 in
theorem gc_X6_weave {l : Launch} {D : gx_D} (fu : Nat) (this : Nat) (p_0 : Int32) (X : gx_H) (X2 : gx_H) (h : gm_X6_weave fu this p_0 X = some X2) : gx_M D gz_cl gz_at gz_tb gz_nb l yX6_weave cX6_weave 6 none 6 158 [gx_r (some this), gx_i p_0] X none X2 0 0 := by
  unfold gm_X6_weave at h
  refine gx_enter [some (gx_r (some this)), some (gx_i p_0), none, none, none, none] rfl (by decide) (Nat.le_of_ble_eq_true rfl) ?_
  intro p e s m below meth c C _
  refine gx_iconst (v := 0) C dX6_weave_0 (by decide) ?_
  refine gx_istore_n (lv2 := [some (gx_r (some this)), some (gx_i p_0), some (gx_i (0 : Int32)), none, none, none]) C dX6_weave_1 rfl (by decide) rfl ?_
  refine gx_iconst (v := 0) C dX6_weave_2 (by decide) ?_
  refine gx_istore_n (lv2 := [some (gx_r (some this)), some (gx_i p_0), some (gx_i (0 : Int32)), some (gx_i (0 : Int32)), none, none]) C dX6_weave_3 rfl (by decide) rfl ?_
  exact gt_X6_weave_4 C fu  fu this p_0 (0 : Int32) (0 : Int32) X h
theorem dX6_forge_0 : decode cX6_forge 0 = .ok (.aload_n 0, 1) := by decide +kernel
theorem dX6_forge_1 : decode cX6_forge 1 = .ok (.iconst 0, 1) := by decide +kernel
theorem dX6_forge_2 : decode cX6_forge 2 = .ok (.putfield 65, 3) := by decide +kernel
theorem dX6_forge_5 : decode cX6_forge 5 = .ok (.aload_n 0, 1) := by decide +kernel
theorem dX6_forge_6 : decode cX6_forge 6 = .ok (.iconst 0, 1) := by decide +kernel
theorem dX6_forge_7 : decode cX6_forge 7 = .ok (.putfield 68, 3) := by decide +kernel
theorem dX6_forge_10 : decode cX6_forge 10 = .ok (.iconst 0, 1) := by decide +kernel
theorem dX6_forge_11 : decode cX6_forge 11 = .ok (.istore_n 1, 1) := by decide +kernel
theorem dX6_forge_12 : decode cX6_forge 12 = .ok (.iconst 0, 1) := by decide +kernel
theorem dX6_forge_13 : decode cX6_forge 13 = .ok (.istore_n 2, 1) := by decide +kernel
theorem dX6_forge_14 : decode cX6_forge 14 = .ok (.iload_n 2, 1) := by decide +kernel
theorem dX6_forge_15 : decode cX6_forge 15 = .ok (.aload_n 0, 1) := by decide +kernel
theorem dX6_forge_16 : decode cX6_forge 16 = .ok (.getfield 21, 3) := by decide +kernel
theorem dX6_forge_19 : decode cX6_forge 19 = .ok (.iconst 0, 1) := by decide +kernel
theorem dX6_forge_20 : decode cX6_forge 20 = .ok (.iaload, 1) := by decide +kernel
theorem dX6_forge_21 : decode cX6_forge 21 = .ok (.if_icmp .ge 36, 3) := by decide +kernel
theorem dX6_forge_24 : decode cX6_forge 24 = .ok (.aload_n 0, 1) := by decide +kernel
theorem dX6_forge_25 : decode cX6_forge 25 = .ok (.iload_n 2, 1) := by decide +kernel
theorem dX6_forge_26 : decode cX6_forge 26 = .ok (.invokevirtual 125, 3) := by decide +kernel
theorem dX6_forge_29 : decode cX6_forge 29 = .ok (.istore_n 3, 1) := by decide +kernel
theorem dX6_forge_30 : decode cX6_forge 30 = .ok (.aload_n 0, 1) := by decide +kernel
theorem dX6_forge_31 : decode cX6_forge 31 = .ok (.getfield 25, 3) := by decide +kernel
theorem dX6_forge_34 : decode cX6_forge 34 = .ok (.iload_n 2, 1) := by decide +kernel
theorem dX6_forge_35 : decode cX6_forge 35 = .ok (.iaload, 1) := by decide +kernel
theorem dX6_forge_36 : decode cX6_forge 36 = .ok (.iload_n 3, 1) := by decide +kernel
theorem dX6_forge_37 : decode cX6_forge 37 = .ok (.iadd, 1) := by decide +kernel
theorem dX6_forge_38 : decode cX6_forge 38 = .ok (.sipush 200, 3) := by decide +kernel
theorem dX6_forge_41 : decode cX6_forge 41 = .ok (.if_icmp .le 6, 3) := by decide +kernel
theorem dX6_forge_44 : decode cX6_forge 44 = .ok (.bipush (-2), 2) := by decide +kernel
theorem dX6_forge_46 : decode cX6_forge 46 = .ok (.ireturn, 1) := by decide +kernel
theorem dX6_forge_47 : decode cX6_forge 47 = .ok (.iload_n 1, 1) := by decide +kernel
theorem dX6_forge_48 : decode cX6_forge 48 = .ok (.iload_n 3, 1) := by decide +kernel
theorem dX6_forge_49 : decode cX6_forge 49 = .ok (.iadd, 1) := by decide +kernel
theorem dX6_forge_50 : decode cX6_forge 50 = .ok (.istore_n 1, 1) := by decide +kernel
theorem dX6_forge_51 : decode cX6_forge 51 = .ok (.iinc 2 1, 3) := by decide +kernel
theorem dX6_forge_54 : decode cX6_forge 54 = .ok (.goto (-40), 3) := by decide +kernel
theorem dX6_forge_57 : decode cX6_forge 57 = .ok (.aload_n 0, 1) := by decide +kernel
theorem dX6_forge_58 : decode cX6_forge 58 = .ok (.getfield 21, 3) := by decide +kernel
theorem dX6_forge_61 : decode cX6_forge 61 = .ok (.iconst 1, 1) := by decide +kernel
theorem dX6_forge_62 : decode cX6_forge 62 = .ok (.aload_n 0, 1) := by decide +kernel
theorem dX6_forge_63 : decode cX6_forge 63 = .ok (.getfield 21, 3) := by decide +kernel
theorem dX6_forge_66 : decode cX6_forge 66 = .ok (.iconst 0, 1) := by decide +kernel
theorem dX6_forge_67 : decode cX6_forge 67 = .ok (.iaload, 1) := by decide +kernel
theorem dX6_forge_68 : decode cX6_forge 68 = .ok (.iastore, 1) := by decide +kernel
theorem dX6_forge_69 : decode cX6_forge 69 = .ok (.aload_n 0, 1) := by decide +kernel
theorem dX6_forge_70 : decode cX6_forge 70 = .ok (.getfield 46, 3) := by decide +kernel
theorem dX6_forge_73 : decode cX6_forge 73 = .ok (.iconst 1, 1) := by decide +kernel
theorem dX6_forge_74 : decode cX6_forge 74 = .ok (.iconst 0, 1) := by decide +kernel
theorem dX6_forge_75 : decode cX6_forge 75 = .ok (.bastore, 1) := by decide +kernel
theorem dX6_forge_76 : decode cX6_forge 76 = .ok (.iconst 0, 1) := by decide +kernel
theorem dX6_forge_77 : decode cX6_forge 77 = .ok (.istore_n 2, 1) := by decide +kernel
theorem dX6_forge_78 : decode cX6_forge 78 = .ok (.iload_n 2, 1) := by decide +kernel
theorem dX6_forge_79 : decode cX6_forge 79 = .ok (.aload_n 0, 1) := by decide +kernel
theorem dX6_forge_80 : decode cX6_forge 80 = .ok (.getfield 21, 3) := by decide +kernel
theorem dX6_forge_83 : decode cX6_forge 83 = .ok (.iconst 0, 1) := by decide +kernel
theorem dX6_forge_84 : decode cX6_forge 84 = .ok (.iaload, 1) := by decide +kernel
theorem dX6_forge_85 : decode cX6_forge 85 = .ok (.if_icmp .ge 14, 3) := by decide +kernel
theorem dX6_forge_88 : decode cX6_forge 88 = .ok (.aload_n 0, 1) := by decide +kernel
theorem dX6_forge_89 : decode cX6_forge 89 = .ok (.iload_n 2, 1) := by decide +kernel
theorem dX6_forge_90 : decode cX6_forge 90 = .ok (.invokevirtual 129, 3) := by decide +kernel
theorem dX6_forge_93 : decode cX6_forge 93 = .ok (.iinc 2 1, 3) := by decide +kernel
theorem dX6_forge_96 : decode cX6_forge 96 = .ok (.goto (-18), 3) := by decide +kernel
theorem dX6_forge_99 : decode cX6_forge 99 = .ok (.aload_n 0, 1) := by decide +kernel
theorem dX6_forge_100 : decode cX6_forge 100 = .ok (.iconst 1, 1) := by decide +kernel
theorem dX6_forge_101 : decode cX6_forge 101 = .ok (.putfield 68, 3) := by decide +kernel
theorem dX6_forge_104 : decode cX6_forge 104 = .ok (.iload_n 1, 1) := by decide +kernel
theorem dX6_forge_105 : decode cX6_forge 105 = .ok (.ireturn, 1) := by decide +kernel
def gm_X6_forge_78 (fu : Nat) : Nat → Nat → Int32 → Int32 → gx_H → Option (Int32 × gx_H)
  | 0, _, _, _, _ => none
  | n + 1, a0, x1, x2, X =>
    (gx_gd X a0 6 4).bind fun az1 =>
    (gx_gai X az1 0 (0 : Int32)).bind fun vz2 =>
    if vz2 ≤ x2 then (
    (gx_pf X a0 6 12 (.int (1 : Int32))).bind fun Xz4 =>
    some (x1, Xz4)) else (
    gx_ob X a0 6 <|
    (gm_X6_weave fu a0 x2 X).bind fun Xz6 =>
    (gm_X6_forge_78 fu  n) a0 x1 (x2 + 1) Xz6)
set_option maxHeartbeats 1000000 in
set_option maxRecDepth 20000 in
theorem gt_X6_forge_78 {p : Program} {l : Launch} {e : Env} {s : State} {m : MethodId} {args : Array Value} {below : List Frame} {meth : Method} {c : Code} {D : gx_D} {r : Int32} {X2 : gx_H}  (C : gx_C D gz_cl gz_at gz_tb gz_nb p s m meth c cX6_forge 4 RX6 (some .int)) (fu : Nat) : ∀ (n : Nat) (a0 : Nat) (x1 : Int32) (x2 : Int32) (X : gx_H) , gm_X6_forge_78 fu  n a0 x1 x2 X = some (r, X2) → gx_W D gz_cl 4 p l e (gx_rm 7 183 0 0) s m args below meth c 0 0 (MQ below (gx_Q D gz_cl (some (gx_i r)) X2) args s 0 0 (gx_Z D)) X 78 [some (gx_r (some a0)), some (gx_i x1), some (gx_i x2), none] [] := by
  intro n
  induction n with
  | zero =>
    intro a0 x1 x2 X h
    have h : none = some _ := h
    cases h
  | succ n ih =>
    intro a0 x1 x2 X h
    rw [gm_X6_forge_78] at h
    refine gx_iload_n C dX6_forge_78 rfl rfl ?_
    refine gx_aload_n C dX6_forge_79 rfl rfl ?_
    obtain ⟨az1, eaz1, h⟩ := gx_bd h
    refine gx_get C kcX6 4 (by decide) wl_501 (gx_gd_s eaz1) dX6_forge_80 ?_
    refine gx_iconst (v := 0) C dX6_forge_83 (by decide) ?_
    obtain ⟨vz2, evz2, h⟩ := gx_bd h
    refine gx_iald C (t := 0) rfl evz2 dX6_forge_84 ?_
    refine gx_icmp_ge (tgt := 99) C dX6_forge_85 (by decide) (fun qz3 => ?_) (fun qz3 => ?_)
    · rw [if_pos qz3] at h
      refine gx_aload_n C dX6_forge_99 rfl rfl ?_
      refine gx_iconst (v := 1) C dX6_forge_100 (by decide) ?_
      obtain ⟨Xz4, eXz4, h⟩ := gx_bd h
      refine gx_put C kcX6 12 (by decide) rfl wl_509 (gx_nz (Or.inr rfl)) eXz4 dX6_forge_101 ?_
      refine gx_iload_n C dX6_forge_104 rfl rfl ?_
      cases h
      exact gx_iret C dX6_forge_105
    · rw [if_neg qz3] at h
      refine gx_aload_n C dX6_forge_88 rfl rfl ?_
      refine gx_iload_n C dX6_forge_89 rfl rfl ?_
      obtain ⟨hoz5, h⟩ := gx_obs h
      obtain ⟨Xz6, eXz6, h⟩ := gx_bd h
      refine gx_callV (As := [gx_i x2]) (st := []) (stk2 := []) C cd_X6_weave wl_651 ws_X6_weave wl_649 rfl hoz5 (gc_X6_weave fu a0 x2 X Xz6 eXz6) rfl ⟨Nat.le_of_ble_eq_true rfl, Nat.le_of_ble_eq_true rfl⟩ ⟨Nat.le_of_ble_eq_true rfl, Nat.le_of_ble_eq_true rfl⟩ (Nat.le_of_ble_eq_true rfl) rfl rfl dX6_forge_90 ?_
      refine gx_iinc (v := (x2 + 1)) (lv2 := [some (gx_r (some a0)), some (gx_i x1), some (gx_i (x2 + 1)), none]) C dX6_forge_93 rfl rfl (by decide) rfl ?_
      refine gx_goto (tgt := 78) C dX6_forge_96 (by decide) ?_
      exact ih a0 x1 (x2 + 1) Xz6 h
def gm_X6_forge_14 (fu : Nat) : Nat → Nat → Int32 → Int32 → gx_H → Option (Int32 × gx_H)
  | 0, _, _, _, _ => none
  | n + 1, a0, x1, x2, X =>
    (gx_gd X a0 6 4).bind fun az7 =>
    (gx_gai X az7 0 (0 : Int32)).bind fun vz8 =>
    if vz8 ≤ x2 then (
    (gx_gd X a0 6 4).bind fun az10 =>
    (gx_gd X a0 6 4).bind fun az11 =>
    (gx_gai X az11 0 (0 : Int32)).bind fun vz12 =>
    (gx_pai X az10 0 (1 : Int32) vz12).bind fun Xz13 =>
    (gx_gd Xz13 a0 6 13).bind fun az14 =>
    (gx_pai Xz13 az14 2 (1 : Int32) (vp_nar .boolean (0 : Int32))).bind fun Xz15 =>
    gm_X6_forge_78 fu  fu a0 x1 (0 : Int32) Xz15) else (
    gx_ob X a0 6 <|
    gx_b2 (gm_X6_lacking fu a0 x2 X) fun vz18 Xz17 =>
    (gx_gd Xz17 a0 6 5).bind fun az19 =>
    (gx_gai Xz17 az19 0 x2).bind fun vz20 =>
    if (vz20 + vz18) ≤ (200 : Int32) then (
    (gm_X6_forge_14 fu  n) a0 (x1 + vz18) (x2 + 1) Xz17) else (
    some ((-2 : Int32), Xz17)))
set_option maxHeartbeats 1000000 in
set_option maxRecDepth 20000 in
theorem gt_X6_forge_14 {p : Program} {l : Launch} {e : Env} {s : State} {m : MethodId} {args : Array Value} {below : List Frame} {meth : Method} {c : Code} {D : gx_D} {r : Int32} {X2 : gx_H}  (C : gx_C D gz_cl gz_at gz_tb gz_nb p s m meth c cX6_forge 4 RX6 (some .int)) (fu : Nat) : ∀ (n : Nat) (a0 : Nat) (x1 : Int32) (x2 : Int32) (X : gx_H) , gm_X6_forge_14 fu  n a0 x1 x2 X = some (r, X2) → gx_W D gz_cl 4 p l e (gx_rm 7 183 0 0) s m args below meth c 0 0 (MQ below (gx_Q D gz_cl (some (gx_i r)) X2) args s 0 0 (gx_Z D)) X 14 [some (gx_r (some a0)), some (gx_i x1), some (gx_i x2), none] [] := by
  intro n
  induction n with
  | zero =>
    intro a0 x1 x2 X h
    have h : none = some _ := h
    cases h
  | succ n ih =>
    intro a0 x1 x2 X h
    rw [gm_X6_forge_14] at h
    refine gx_iload_n C dX6_forge_14 rfl rfl ?_
    refine gx_aload_n C dX6_forge_15 rfl rfl ?_
    obtain ⟨az7, eaz7, h⟩ := gx_bd h
    refine gx_get C kcX6 4 (by decide) wl_501 (gx_gd_s eaz7) dX6_forge_16 ?_
    refine gx_iconst (v := 0) C dX6_forge_19 (by decide) ?_
    obtain ⟨vz8, evz8, h⟩ := gx_bd h
    refine gx_iald C (t := 0) rfl evz8 dX6_forge_20 ?_
    refine gx_icmp_ge (tgt := 57) C dX6_forge_21 (by decide) (fun qz9 => ?_) (fun qz9 => ?_)
    · rw [if_pos qz9] at h
      refine gx_aload_n C dX6_forge_57 rfl rfl ?_
      obtain ⟨az10, eaz10, h⟩ := gx_bd h
      refine gx_get C kcX6 4 (by decide) wl_501 (gx_gd_s eaz10) dX6_forge_58 ?_
      refine gx_iconst (v := 1) C dX6_forge_61 (by decide) ?_
      refine gx_aload_n C dX6_forge_62 rfl rfl ?_
      obtain ⟨az11, eaz11, h⟩ := gx_bd h
      refine gx_get C kcX6 4 (by decide) wl_501 (gx_gd_s eaz11) dX6_forge_63 ?_
      refine gx_iconst (v := 0) C dX6_forge_66 (by decide) ?_
      obtain ⟨vz12, evz12, h⟩ := gx_bd h
      refine gx_iald C (t := 0) rfl evz12 dX6_forge_67 ?_
      obtain ⟨Xz13, eXz13, h⟩ := gx_bd h
      refine gx_iast C (t := 0) rfl eXz13 dX6_forge_68 ?_
      refine gx_aload_n C dX6_forge_69 rfl rfl ?_
      obtain ⟨az14, eaz14, h⟩ := gx_bd h
      refine gx_get C kcX6 13 (by decide) wl_510 (gx_gd_s eaz14) dX6_forge_70 ?_
      refine gx_iconst (v := 1) C dX6_forge_73 (by decide) ?_
      refine gx_iconst (v := 0) C dX6_forge_74 (by decide) ?_
      obtain ⟨Xz15, eXz15, h⟩ := gx_bd h
      refine gx_zast C (t := 2) rfl eXz15 dX6_forge_75 ?_
      refine gx_iconst (v := 0) C dX6_forge_76 (by decide) ?_
      refine gx_istore_n (lv2 := [some (gx_r (some a0)), some (gx_i x1), some (gx_i (0 : Int32)), none]) C dX6_forge_77 rfl (by decide) rfl ?_
      exact gt_X6_forge_78 C fu  fu a0 x1 (0 : Int32) Xz15 h
    · rw [if_neg qz9] at h
      refine gx_aload_n C dX6_forge_24 rfl rfl ?_
      refine gx_iload_n C dX6_forge_25 rfl rfl ?_
      obtain ⟨hoz16, h⟩ := gx_obs h
      obtain ⟨vz18, Xz17, eXz17, h⟩ := gx_bd2 h
      refine gx_callV (As := [gx_i x2]) (st := []) (stk2 := [gx_i vz18]) C cd_X6_lacking wl_615 ws_X6_lacking wl_613 rfl hoz16 (gc_X6_lacking fu a0 x2 X vz18 Xz17 eXz17) rfl ⟨Nat.le_of_ble_eq_true rfl, Nat.le_of_ble_eq_true rfl⟩ ⟨Nat.le_of_ble_eq_true rfl, Nat.le_of_ble_eq_true rfl⟩ (Nat.le_of_ble_eq_true rfl) rfl rfl dX6_forge_26 ?_
      refine gx_istore_n (lv2 := [some (gx_r (some a0)), some (gx_i x1), some (gx_i x2), some (gx_i vz18)]) C dX6_forge_29 rfl (by decide) rfl ?_
      refine gx_aload_n C dX6_forge_30 rfl rfl ?_
      obtain ⟨az19, eaz19, h⟩ := gx_bd h
      refine gx_get C kcX6 5 (by decide) wl_502 (gx_gd_s eaz19) dX6_forge_31 ?_
      refine gx_iload_n C dX6_forge_34 rfl rfl ?_
      obtain ⟨vz20, evz20, h⟩ := gx_bd h
      refine gx_iald C (t := 0) rfl evz20 dX6_forge_35 ?_
      refine gx_iload_n C dX6_forge_36 rfl rfl ?_
      refine gx_iadd C dX6_forge_37 ?_
      refine gx_sipush (v := 200) C dX6_forge_38 (by decide) ?_
      refine gx_icmp_le (tgt := 47) C dX6_forge_41 (by decide) (fun qz21 => ?_) (fun qz21 => ?_)
      · rw [if_pos qz21] at h
        refine gx_iload_n C dX6_forge_47 rfl rfl ?_
        refine gx_iload_n C dX6_forge_48 rfl rfl ?_
        refine gx_iadd C dX6_forge_49 ?_
        refine gx_istore_n (lv2 := [some (gx_r (some a0)), some (gx_i (x1 + vz18)), some (gx_i x2), some (gx_i vz18)]) C dX6_forge_50 rfl (by decide) rfl ?_
        refine gx_iinc (v := (x2 + 1)) (lv2 := [some (gx_r (some a0)), some (gx_i (x1 + vz18)), some (gx_i (x2 + 1)), some (gx_i vz18)]) C dX6_forge_51 rfl rfl (by decide) rfl ?_
        refine gx_goto (tgt := 14) C dX6_forge_54 (by decide) ?_
        refine gx_sub (lv2 := [some (gx_r (some a0)), some (gx_i (x1 + vz18)), some (gx_i (x2 + 1)), none]) [true, true, true, false] rfl ?_
        exact ih a0 (x1 + vz18) (x2 + 1) Xz17 h
      · rw [if_neg qz21] at h
        refine gx_bipush (v := -2) C dX6_forge_44 (by decide) ?_
        cases h
        exact gx_iret C dX6_forge_46
def gm_X6_forge (fu : Nat) (this : Nat) (X : gx_H) : Option (Int32 × gx_H) :=
  (gx_pf X this 6 0 (.int (0 : Int32))).bind fun Xz22 =>
  (gx_pf Xz22 this 6 12 (.int (0 : Int32))).bind fun Xz23 =>
  gm_X6_forge_14 fu  fu this (0 : Int32) (0 : Int32) Xz23
set_option maxHeartbeats 1000000 in
set_option maxRecDepth 20000 in
theorem gc_X6_forge {l : Launch} {D : gx_D} (fu : Nat) (this : Nat) (X : gx_H) (r : Int32) (X2 : gx_H) (h : gm_X6_forge fu this X = some (r, X2)) : gx_M D gz_cl gz_at gz_tb gz_nb l yX6_forge cX6_forge 4 (some .int) 7 183 [gx_r (some this)] X (some (gx_i r)) X2 0 0 := by
  unfold gm_X6_forge at h
  refine gx_enter [some (gx_r (some this)), none, none, none] rfl (by decide) (Nat.le_of_ble_eq_true rfl) ?_
  intro p e s m below meth c C _
  refine gx_aload_n C dX6_forge_0 rfl rfl ?_
  refine gx_iconst (v := 0) C dX6_forge_1 (by decide) ?_
  obtain ⟨Xz22, eXz22, h⟩ := gx_bd h
  refine gx_put C kcX6 0 (by decide) rfl wl_497 ⟨rfl, rfl⟩ eXz22 dX6_forge_2 ?_
  refine gx_aload_n C dX6_forge_5 rfl rfl ?_
  refine gx_iconst (v := 0) C dX6_forge_6 (by decide) ?_
  obtain ⟨Xz23, eXz23, h⟩ := gx_bd h
  refine gx_put C kcX6 12 (by decide) rfl wl_509 (gx_nz (Or.inl rfl)) eXz23 dX6_forge_7 ?_
  refine gx_iconst (v := 0) C dX6_forge_10 (by decide) ?_
  refine gx_istore_n (lv2 := [some (gx_r (some this)), some (gx_i (0 : Int32)), none, none]) C dX6_forge_11 rfl (by decide) rfl ?_
  refine gx_iconst (v := 0) C dX6_forge_12 (by decide) ?_
  refine gx_istore_n (lv2 := [some (gx_r (some this)), some (gx_i (0 : Int32)), some (gx_i (0 : Int32)), none]) C dX6_forge_13 rfl (by decide) rfl ?_
  exact gt_X6_forge_14 C fu  fu this (0 : Int32) (0 : Int32) Xz23 h
theorem dX6_function_0 : decode cX6_function 0 = .ok (.aload_n 0, 1) := by decide +kernel
theorem dX6_function_1 : decode cX6_function 1 = .ok (.iconst 0, 1) := by decide +kernel
theorem dX6_function_2 : decode cX6_function 2 = .ok (.putfield 65, 3) := by decide +kernel
theorem dX6_function_5 : decode cX6_function 5 = .ok (.iload_n 1, 1) := by decide +kernel
theorem dX6_function_6 : decode cX6_function 6 = .ok (.iconst 1, 1) := by decide +kernel
theorem dX6_function_7 : decode cX6_function 7 = .ok (.if_icmp .lt 21, 3) := by decide +kernel
theorem dX6_function_10 : decode cX6_function 10 = .ok (.iload_n 1, 1) := by decide +kernel
theorem dX6_function_11 : decode cX6_function 11 = .ok (.sipush 200, 3) := by decide +kernel
theorem dX6_function_14 : decode cX6_function 14 = .ok (.if_icmp .gt 14, 3) := by decide +kernel
theorem dX6_function_17 : decode cX6_function 17 = .ok (.aload_n 0, 1) := by decide +kernel
theorem dX6_function_18 : decode cX6_function 18 = .ok (.getfield 21, 3) := by decide +kernel
theorem dX6_function_21 : decode cX6_function 21 = .ok (.iconst 0, 1) := by decide +kernel
theorem dX6_function_22 : decode cX6_function 22 = .ok (.iaload, 1) := by decide +kernel
theorem dX6_function_23 : decode cX6_function 23 = .ok (.bipush 8, 2) := by decide +kernel
theorem dX6_function_25 : decode cX6_function 25 = .ok (.if_icmp .ne 5, 3) := by decide +kernel
theorem dX6_function_28 : decode cX6_function 28 = .ok (.iconst (-1), 1) := by decide +kernel
theorem dX6_function_29 : decode cX6_function 29 = .ok (.ireturn, 1) := by decide +kernel
theorem dX6_function_30 : decode cX6_function 30 = .ok (.aload_n 0, 1) := by decide +kernel
theorem dX6_function_31 : decode cX6_function 31 = .ok (.invokevirtual 76, 3) := by decide +kernel
theorem dX6_function_34 : decode cX6_function 34 = .ok (.aload_n 0, 1) := by decide +kernel
theorem dX6_function_35 : decode cX6_function 35 = .ok (.getfield 21, 3) := by decide +kernel
theorem dX6_function_38 : decode cX6_function 38 = .ok (.iconst 0, 1) := by decide +kernel
theorem dX6_function_39 : decode cX6_function 39 = .ok (.iaload, 1) := by decide +kernel
theorem dX6_function_40 : decode cX6_function 40 = .ok (.istore_n 2, 1) := by decide +kernel
theorem dX6_function_41 : decode cX6_function 41 = .ok (.aload_n 0, 1) := by decide +kernel
theorem dX6_function_42 : decode cX6_function 42 = .ok (.getfield 25, 3) := by decide +kernel
theorem dX6_function_45 : decode cX6_function 45 = .ok (.iload_n 2, 1) := by decide +kernel
theorem dX6_function_46 : decode cX6_function 46 = .ok (.iload_n 1, 1) := by decide +kernel
theorem dX6_function_47 : decode cX6_function 47 = .ok (.iastore, 1) := by decide +kernel
theorem dX6_function_48 : decode cX6_function 48 = .ok (.aload_n 0, 1) := by decide +kernel
theorem dX6_function_49 : decode cX6_function 49 = .ok (.getfield 28, 3) := by decide +kernel
theorem dX6_function_52 : decode cX6_function 52 = .ok (.iload_n 2, 1) := by decide +kernel
theorem dX6_function_53 : decode cX6_function 53 = .ok (.iconst 0, 1) := by decide +kernel
theorem dX6_function_54 : decode cX6_function 54 = .ok (.iastore, 1) := by decide +kernel
theorem dX6_function_55 : decode cX6_function 55 = .ok (.iconst 0, 1) := by decide +kernel
theorem dX6_function_56 : decode cX6_function 56 = .ok (.istore_n 3, 1) := by decide +kernel
theorem dX6_function_57 : decode cX6_function 57 = .ok (.iload_n 3, 1) := by decide +kernel
theorem dX6_function_58 : decode cX6_function 58 = .ok (.iload_n 1, 1) := by decide +kernel
theorem dX6_function_59 : decode cX6_function 59 = .ok (.if_icmp .ge 35, 3) := by decide +kernel
theorem dX6_function_62 : decode cX6_function 62 = .ok (.aload_n 0, 1) := by decide +kernel
theorem dX6_function_63 : decode cX6_function 63 = .ok (.getfield 31, 3) := by decide +kernel
theorem dX6_function_66 : decode cX6_function 66 = .ok (.sipush 200, 3) := by decide +kernel
theorem dX6_function_69 : decode cX6_function 69 = .ok (.iload_n 2, 1) := by decide +kernel
theorem dX6_function_70 : decode cX6_function 70 = .ok (.imul, 1) := by decide +kernel
theorem dX6_function_71 : decode cX6_function 71 = .ok (.iload_n 3, 1) := by decide +kernel
theorem dX6_function_72 : decode cX6_function 72 = .ok (.iadd, 1) := by decide +kernel
theorem dX6_function_73 : decode cX6_function 73 = .ok (.iconst 0, 1) := by decide +kernel
theorem dX6_function_74 : decode cX6_function 74 = .ok (.iastore, 1) := by decide +kernel
theorem dX6_function_75 : decode cX6_function 75 = .ok (.aload_n 0, 1) := by decide +kernel
theorem dX6_function_76 : decode cX6_function 76 = .ok (.getfield 34, 3) := by decide +kernel
theorem dX6_function_79 : decode cX6_function 79 = .ok (.sipush 200, 3) := by decide +kernel
theorem dX6_function_82 : decode cX6_function 82 = .ok (.iload_n 2, 1) := by decide +kernel
theorem dX6_function_83 : decode cX6_function 83 = .ok (.imul, 1) := by decide +kernel
theorem dX6_function_84 : decode cX6_function 84 = .ok (.iload_n 3, 1) := by decide +kernel
theorem dX6_function_85 : decode cX6_function 85 = .ok (.iadd, 1) := by decide +kernel
theorem dX6_function_86 : decode cX6_function 86 = .ok (.iconst 0, 1) := by decide +kernel
theorem dX6_function_87 : decode cX6_function 87 = .ok (.iastore, 1) := by decide +kernel
theorem dX6_function_88 : decode cX6_function 88 = .ok (.iinc 3 1, 3) := by decide +kernel
theorem dX6_function_91 : decode cX6_function 91 = .ok (.goto (-34), 3) := by decide +kernel
theorem dX6_function_94 : decode cX6_function 94 = .ok (.aload_n 0, 1) := by decide +kernel
theorem dX6_function_95 : decode cX6_function 95 = .ok (.getfield 21, 3) := by decide +kernel
theorem dX6_function_98 : decode cX6_function 98 = .ok (.iconst 0, 1) := by decide +kernel
theorem dX6_function_99 : decode cX6_function 99 = .ok (.dup2, 1) := by decide +kernel
theorem dX6_function_100 : decode cX6_function 100 = .ok (.iaload, 1) := by decide +kernel
theorem dX6_function_101 : decode cX6_function 101 = .ok (.iconst 1, 1) := by decide +kernel
theorem dX6_function_102 : decode cX6_function 102 = .ok (.iadd, 1) := by decide +kernel
theorem dX6_function_103 : decode cX6_function 103 = .ok (.iastore, 1) := by decide +kernel
theorem dX6_function_104 : decode cX6_function 104 = .ok (.iload_n 2, 1) := by decide +kernel
theorem dX6_function_105 : decode cX6_function 105 = .ok (.ireturn, 1) := by decide +kernel
def gm_X6_function_57 (fu : Nat) : Nat → Nat → Int32 → Int32 → Int32 → gx_H → Option (Int32 × gx_H)
  | 0, _, _, _, _, _ => none
  | n + 1, a0, x1, x2, x3, X =>
    if x1 ≤ x3 then (
    (gx_gd X a0 6 4).bind fun az2 =>
    (gx_gai X az2 0 (0 : Int32)).bind fun vz3 =>
    (gx_pai X az2 0 (0 : Int32) (vz3 + (1 : Int32))).bind fun Xz4 =>
    some (x2, Xz4)) else (
    (gx_gd X a0 6 7).bind fun az5 =>
    (gx_pai X az5 0 (((200 : Int32) * x2) + x3) (0 : Int32)).bind fun Xz6 =>
    (gx_gd Xz6 a0 6 8).bind fun az7 =>
    (gx_pai Xz6 az7 0 (((200 : Int32) * x2) + x3) (0 : Int32)).bind fun Xz8 =>
    (gm_X6_function_57 fu  n) a0 x1 x2 (x3 + 1) Xz8)
set_option maxHeartbeats 1000000 in
set_option maxRecDepth 20000 in
theorem gt_X6_function_57 {p : Program} {l : Launch} {e : Env} {s : State} {m : MethodId} {args : Array Value} {below : List Frame} {meth : Method} {c : Code} {D : gx_D} {r : Int32} {X2 : gx_H}  (C : gx_C D gz_cl gz_at gz_tb gz_nb p s m meth c cX6_function 4 RX6 (some .int)) (fu : Nat) : ∀ (n : Nat) (a0 : Nat) (x1 : Int32) (x2 : Int32) (x3 : Int32) (X : gx_H) , gm_X6_function_57 fu  n a0 x1 x2 x3 X = some (r, X2) → gx_W D gz_cl 4 p l e (gx_rm 1 20 0 0) s m args below meth c 0 0 (MQ below (gx_Q D gz_cl (some (gx_i r)) X2) args s 0 0 (gx_Z D)) X 57 [some (gx_r (some a0)), some (gx_i x1), some (gx_i x2), some (gx_i x3)] [] := by
  intro n
  induction n with
  | zero =>
    intro a0 x1 x2 x3 X h
    have h : none = some _ := h
    cases h
  | succ n ih =>
    intro a0 x1 x2 x3 X h
    rw [gm_X6_function_57] at h
    refine gx_iload_n C dX6_function_57 rfl rfl ?_
    refine gx_iload_n C dX6_function_58 rfl rfl ?_
    refine gx_icmp_ge (tgt := 94) C dX6_function_59 (by decide) (fun qz1 => ?_) (fun qz1 => ?_)
    · rw [if_pos qz1] at h
      refine gx_aload_n C dX6_function_94 rfl rfl ?_
      obtain ⟨az2, eaz2, h⟩ := gx_bd h
      refine gx_get C kcX6 4 (by decide) wl_501 (gx_gd_s eaz2) dX6_function_95 ?_
      refine gx_iconst (v := 0) C dX6_function_98 (by decide) ?_
      refine gx_dup2 C dX6_function_99 rfl rfl ?_
      obtain ⟨vz3, evz3, h⟩ := gx_bd h
      refine gx_iald C (t := 0) rfl evz3 dX6_function_100 ?_
      refine gx_iconst (v := 1) C dX6_function_101 (by decide) ?_
      refine gx_iadd C dX6_function_102 ?_
      obtain ⟨Xz4, eXz4, h⟩ := gx_bd h
      refine gx_iast C (t := 0) rfl eXz4 dX6_function_103 ?_
      refine gx_iload_n C dX6_function_104 rfl rfl ?_
      cases h
      exact gx_iret C dX6_function_105
    · rw [if_neg qz1] at h
      refine gx_aload_n C dX6_function_62 rfl rfl ?_
      obtain ⟨az5, eaz5, h⟩ := gx_bd h
      refine gx_get C kcX6 7 (by decide) wl_504 (gx_gd_s eaz5) dX6_function_63 ?_
      refine gx_sipush (v := 200) C dX6_function_66 (by decide) ?_
      refine gx_iload_n C dX6_function_69 rfl rfl ?_
      refine gx_imul C dX6_function_70 ?_
      refine gx_iload_n C dX6_function_71 rfl rfl ?_
      refine gx_iadd C dX6_function_72 ?_
      refine gx_iconst (v := 0) C dX6_function_73 (by decide) ?_
      obtain ⟨Xz6, eXz6, h⟩ := gx_bd h
      refine gx_iast C (t := 0) rfl eXz6 dX6_function_74 ?_
      refine gx_aload_n C dX6_function_75 rfl rfl ?_
      obtain ⟨az7, eaz7, h⟩ := gx_bd h
      refine gx_get C kcX6 8 (by decide) wl_505 (gx_gd_s eaz7) dX6_function_76 ?_
      refine gx_sipush (v := 200) C dX6_function_79 (by decide) ?_
      refine gx_iload_n C dX6_function_82 rfl rfl ?_
      refine gx_imul C dX6_function_83 ?_
      refine gx_iload_n C dX6_function_84 rfl rfl ?_
      refine gx_iadd C dX6_function_85 ?_
      refine gx_iconst (v := 0) C dX6_function_86 (by decide) ?_
      obtain ⟨Xz8, eXz8, h⟩ := gx_bd h
      refine gx_iast C (t := 0) rfl eXz8 dX6_function_87 ?_
      refine gx_iinc (v := (x3 + 1)) (lv2 := [some (gx_r (some a0)), some (gx_i x1), some (gx_i x2), some (gx_i (x3 + 1))]) C dX6_function_88 rfl rfl (by decide) rfl ?_
      refine gx_goto (tgt := 57) C dX6_function_91 (by decide) ?_
      exact ih a0 x1 x2 (x3 + 1) Xz8 h
def gm_X6_function (fu : Nat) (this : Nat) (p_0 : Int32) (X : gx_H) : Option (Int32 × gx_H) :=
  (gx_pf X this 6 0 (.int (0 : Int32))).bind fun Xz9 =>
  if p_0 < (1 : Int32) then (
  some ((-1 : Int32), Xz9)) else (
  if (200 : Int32) < p_0 then (
  some ((-1 : Int32), Xz9)) else (
  (gx_gd Xz9 this 6 4).bind fun az12 =>
  (gx_gai Xz9 az12 0 (0 : Int32)).bind fun vz13 =>
  if vz13 = (8 : Int32) then (
  some ((-1 : Int32), Xz9)) else (
  gx_ob Xz9 this 6 <|
  (gm_X6_change fu this Xz9).bind fun Xz16 =>
  (gx_gd Xz16 this 6 4).bind fun az17 =>
  (gx_gai Xz16 az17 0 (0 : Int32)).bind fun vz18 =>
  (gx_gd Xz16 this 6 5).bind fun az19 =>
  (gx_pai Xz16 az19 0 vz18 p_0).bind fun Xz20 =>
  (gx_gd Xz20 this 6 6).bind fun az21 =>
  (gx_pai Xz20 az21 0 vz18 (0 : Int32)).bind fun Xz22 =>
  gm_X6_function_57 fu  fu this p_0 vz18 (0 : Int32) Xz22)))
set_option maxHeartbeats 1000000 in
set_option maxRecDepth 20000 in
theorem gc_X6_function {l : Launch} {D : gx_D} (fu : Nat) (this : Nat) (p_0 : Int32) (X : gx_H) (r : Int32) (X2 : gx_H) (h : gm_X6_function fu this p_0 X = some (r, X2)) : gx_M D gz_cl gz_at gz_tb gz_nb l yX6_function cX6_function 4 (some .int) 1 20 [gx_r (some this), gx_i p_0] X (some (gx_i r)) X2 0 0 := by
  unfold gm_X6_function at h
  refine gx_enter [some (gx_r (some this)), some (gx_i p_0), none, none] rfl (by decide) (Nat.le_of_ble_eq_true rfl) ?_
  intro p e s m below meth c C _
  refine gx_aload_n C dX6_function_0 rfl rfl ?_
  refine gx_iconst (v := 0) C dX6_function_1 (by decide) ?_
  obtain ⟨Xz9, eXz9, h⟩ := gx_bd h
  refine gx_put C kcX6 0 (by decide) rfl wl_497 ⟨rfl, rfl⟩ eXz9 dX6_function_2 ?_
  refine gx_iload_n C dX6_function_5 rfl rfl ?_
  refine gx_iconst (v := 1) C dX6_function_6 (by decide) ?_
  refine gx_icmp_lt (tgt := 28) C dX6_function_7 (by decide) (fun qz10 => ?_) (fun qz10 => ?_)
  · rw [if_pos qz10] at h
    refine gx_iconst (v := -1) C dX6_function_28 (by decide) ?_
    cases h
    exact gx_iret C dX6_function_29
  · rw [if_neg qz10] at h
    refine gx_iload_n C dX6_function_10 rfl rfl ?_
    refine gx_sipush (v := 200) C dX6_function_11 (by decide) ?_
    refine gx_icmp_gt (tgt := 28) C dX6_function_14 (by decide) (fun qz11 => ?_) (fun qz11 => ?_)
    · rw [if_pos qz11] at h
      refine gx_iconst (v := -1) C dX6_function_28 (by decide) ?_
      cases h
      exact gx_iret C dX6_function_29
    · rw [if_neg qz11] at h
      refine gx_aload_n C dX6_function_17 rfl rfl ?_
      obtain ⟨az12, eaz12, h⟩ := gx_bd h
      refine gx_get C kcX6 4 (by decide) wl_501 (gx_gd_s eaz12) dX6_function_18 ?_
      refine gx_iconst (v := 0) C dX6_function_21 (by decide) ?_
      obtain ⟨vz13, evz13, h⟩ := gx_bd h
      refine gx_iald C (t := 0) rfl evz13 dX6_function_22 ?_
      refine gx_bipush (v := 8) C dX6_function_23 (by decide) ?_
      refine gx_icmp_ne (tgt := 30) C dX6_function_25 (by decide) (fun qz14 => ?_) (fun qz14 => ?_)
      · rw [if_neg qz14] at h
        refine gx_aload_n C dX6_function_30 rfl rfl ?_
        obtain ⟨hoz15, h⟩ := gx_obs h
        obtain ⟨Xz16, eXz16, h⟩ := gx_bd h
        refine gx_callV (As := []) (st := []) (stk2 := []) C cd_X6_change wl_564 ws_X6_change wl_562 rfl hoz15 (gc_X6_change fu this Xz9 Xz16 eXz16) rfl ⟨Nat.le_of_ble_eq_true rfl, Nat.le_of_ble_eq_true rfl⟩ ⟨Nat.le_of_ble_eq_true rfl, Nat.le_of_ble_eq_true rfl⟩ (Nat.le_of_ble_eq_true rfl) rfl rfl dX6_function_31 ?_
        refine gx_aload_n C dX6_function_34 rfl rfl ?_
        obtain ⟨az17, eaz17, h⟩ := gx_bd h
        refine gx_get C kcX6 4 (by decide) wl_501 (gx_gd_s eaz17) dX6_function_35 ?_
        refine gx_iconst (v := 0) C dX6_function_38 (by decide) ?_
        obtain ⟨vz18, evz18, h⟩ := gx_bd h
        refine gx_iald C (t := 0) rfl evz18 dX6_function_39 ?_
        refine gx_istore_n (lv2 := [some (gx_r (some this)), some (gx_i p_0), some (gx_i vz18), none]) C dX6_function_40 rfl (by decide) rfl ?_
        refine gx_aload_n C dX6_function_41 rfl rfl ?_
        obtain ⟨az19, eaz19, h⟩ := gx_bd h
        refine gx_get C kcX6 5 (by decide) wl_502 (gx_gd_s eaz19) dX6_function_42 ?_
        refine gx_iload_n C dX6_function_45 rfl rfl ?_
        refine gx_iload_n C dX6_function_46 rfl rfl ?_
        obtain ⟨Xz20, eXz20, h⟩ := gx_bd h
        refine gx_iast C (t := 0) rfl eXz20 dX6_function_47 ?_
        refine gx_aload_n C dX6_function_48 rfl rfl ?_
        obtain ⟨az21, eaz21, h⟩ := gx_bd h
        refine gx_get C kcX6 6 (by decide) wl_503 (gx_gd_s eaz21) dX6_function_49 ?_
        refine gx_iload_n C dX6_function_52 rfl rfl ?_
        refine gx_iconst (v := 0) C dX6_function_53 (by decide) ?_
        obtain ⟨Xz22, eXz22, h⟩ := gx_bd h
        refine gx_iast C (t := 0) rfl eXz22 dX6_function_54 ?_
        refine gx_iconst (v := 0) C dX6_function_55 (by decide) ?_
        refine gx_istore_n (lv2 := [some (gx_r (some this)), some (gx_i p_0), some (gx_i vz18), some (gx_i (0 : Int32))]) C dX6_function_56 rfl (by decide) rfl ?_
        exact gt_X6_function_57 C fu  fu this p_0 vz18 (0 : Int32) Xz22 h
      · rw [if_pos qz14] at h
        refine gx_iconst (v := -1) C dX6_function_28 (by decide) ?_
        cases h
        exact gx_iret C dX6_function_29
