abbrev b_Mo_lessened : ByteArray := prog_13_method_13_code
def y_Mo_lessened : MethodName := ⟨"RegularSolverModel", "lessened", "()Z"⟩
abbrev w0_Mo_lessened : List Cond := Cond.code y_Mo_lessened b_Mo_lessened 8 (some .boolean) :: gW
theorem cd_Mo_lessened : Cond.code y_Mo_lessened b_Mo_lessened 8 (some .boolean) ∈ gW := gm 952 (by decide +kernel) (by decide +kernel)
theorem d_Mo_lessened_0 : decode b_Mo_lessened 0 = .ok (.iconst 0, 1) := by decide +kernel
theorem d_Mo_lessened_1 : decode b_Mo_lessened 1 = .ok (.istore_n 1, 1) := by decide +kernel
theorem d_Mo_lessened_2 : decode b_Mo_lessened 2 = .ok (.iconst 0, 1) := by decide +kernel
theorem d_Mo_lessened_3 : decode b_Mo_lessened 3 = .ok (.istore_n 2, 1) := by decide +kernel
theorem d_Mo_lessened_4 : decode b_Mo_lessened 4 = .ok (.iload_n 2, 1) := by decide +kernel
theorem d_Mo_lessened_5 : decode b_Mo_lessened 5 = .ok (.aload_n 0, 1) := by decide +kernel
theorem d_Mo_lessened_6 : decode b_Mo_lessened 6 = .ok (.getfield 95, 3) := by decide +kernel
theorem d_Mo_lessened_9 : decode b_Mo_lessened 9 = .ok (.if_icmp .ge 29, 3) := by decide +kernel
theorem d_Mo_lessened_12 : decode b_Mo_lessened 12 = .ok (.aload_n 0, 1) := by decide +kernel
theorem d_Mo_lessened_13 : decode b_Mo_lessened 13 = .ok (.getfield 26, 3) := by decide +kernel
theorem d_Mo_lessened_16 : decode b_Mo_lessened 16 = .ok (.iload_n 2, 1) := by decide +kernel
theorem d_Mo_lessened_17 : decode b_Mo_lessened 17 = .ok (.aload_n 0, 1) := by decide +kernel
theorem d_Mo_lessened_18 : decode b_Mo_lessened 18 = .ok (.getfield 42, 3) := by decide +kernel
theorem d_Mo_lessened_21 : decode b_Mo_lessened 21 = .ok (.iload_n 2, 1) := by decide +kernel
theorem d_Mo_lessened_22 : decode b_Mo_lessened 22 = .ok (.baload, 1) := by decide +kernel
theorem d_Mo_lessened_23 : decode b_Mo_lessened 23 = .ok (.ifCond .eq 7, 3) := by decide +kernel
theorem d_Mo_lessened_26 : decode b_Mo_lessened 26 = .ok (.iconst 1, 1) := by decide +kernel
theorem d_Mo_lessened_27 : decode b_Mo_lessened 27 = .ok (.goto 4, 3) := by decide +kernel
theorem d_Mo_lessened_30 : decode b_Mo_lessened 30 = .ok (.iconst 0, 1) := by decide +kernel
theorem d_Mo_lessened_31 : decode b_Mo_lessened 31 = .ok (.iastore, 1) := by decide +kernel
theorem d_Mo_lessened_32 : decode b_Mo_lessened 32 = .ok (.iinc 2 1, 3) := by decide +kernel
theorem d_Mo_lessened_35 : decode b_Mo_lessened 35 = .ok (.goto (-31), 3) := by decide +kernel
theorem d_Mo_lessened_38 : decode b_Mo_lessened 38 = .ok (.iconst 0, 1) := by decide +kernel
theorem d_Mo_lessened_39 : decode b_Mo_lessened 39 = .ok (.istore_n 2, 1) := by decide +kernel
theorem d_Mo_lessened_40 : decode b_Mo_lessened 40 = .ok (.iconst 0, 1) := by decide +kernel
theorem d_Mo_lessened_41 : decode b_Mo_lessened 41 = .ok (.istore_n 3, 1) := by decide +kernel
theorem d_Mo_lessened_42 : decode b_Mo_lessened 42 = .ok (.iload_n 3, 1) := by decide +kernel
theorem d_Mo_lessened_43 : decode b_Mo_lessened 43 = .ok (.aload_n 0, 1) := by decide +kernel
theorem d_Mo_lessened_44 : decode b_Mo_lessened 44 = .ok (.getfield 95, 3) := by decide +kernel
theorem d_Mo_lessened_47 : decode b_Mo_lessened 47 = .ok (.if_icmp .ge 71, 3) := by decide +kernel
theorem d_Mo_lessened_50 : decode b_Mo_lessened 50 = .ok (.iconst 0, 1) := by decide +kernel
theorem d_Mo_lessened_51 : decode b_Mo_lessened 51 = .ok (.istore 4, 2) := by decide +kernel
theorem d_Mo_lessened_53 : decode b_Mo_lessened 53 = .ok (.iload 4, 2) := by decide +kernel
theorem d_Mo_lessened_55 : decode b_Mo_lessened 55 = .ok (.iload_n 2, 1) := by decide +kernel
theorem d_Mo_lessened_56 : decode b_Mo_lessened 56 = .ok (.if_icmp .ge 24, 3) := by decide +kernel
theorem d_Mo_lessened_59 : decode b_Mo_lessened 59 = .ok (.aload_n 0, 1) := by decide +kernel
theorem d_Mo_lessened_60 : decode b_Mo_lessened 60 = .ok (.iload_n 3, 1) := by decide +kernel
theorem d_Mo_lessened_61 : decode b_Mo_lessened 61 = .ok (.aload_n 0, 1) := by decide +kernel
theorem d_Mo_lessened_62 : decode b_Mo_lessened 62 = .ok (.getfield 32, 3) := by decide +kernel
theorem d_Mo_lessened_65 : decode b_Mo_lessened 65 = .ok (.iload 4, 2) := by decide +kernel
theorem d_Mo_lessened_67 : decode b_Mo_lessened 67 = .ok (.iaload, 1) := by decide +kernel
theorem d_Mo_lessened_68 : decode b_Mo_lessened 68 = .ok (.invokevirtual 121, 3) := by decide +kernel
theorem d_Mo_lessened_71 : decode b_Mo_lessened 71 = .ok (.ifCond .ne 9, 3) := by decide +kernel
theorem d_Mo_lessened_74 : decode b_Mo_lessened 74 = .ok (.iinc 4 1, 3) := by decide +kernel
theorem d_Mo_lessened_77 : decode b_Mo_lessened 77 = .ok (.goto (-24), 3) := by decide +kernel
theorem d_Mo_lessened_80 : decode b_Mo_lessened 80 = .ok (.iload 4, 2) := by decide +kernel
theorem d_Mo_lessened_82 : decode b_Mo_lessened 82 = .ok (.iload_n 2, 1) := by decide +kernel
theorem d_Mo_lessened_83 : decode b_Mo_lessened 83 = .ok (.if_icmp .ne 21, 3) := by decide +kernel
theorem d_Mo_lessened_86 : decode b_Mo_lessened 86 = .ok (.iload_n 2, 1) := by decide +kernel
theorem d_Mo_lessened_87 : decode b_Mo_lessened 87 = .ok (.bipush 64, 2) := by decide +kernel
theorem d_Mo_lessened_89 : decode b_Mo_lessened 89 = .ok (.if_icmp .ne 5, 3) := by decide +kernel
theorem d_Mo_lessened_92 : decode b_Mo_lessened 92 = .ok (.iconst 0, 1) := by decide +kernel
theorem d_Mo_lessened_93 : decode b_Mo_lessened 93 = .ok (.ireturn, 1) := by decide +kernel
theorem d_Mo_lessened_94 : decode b_Mo_lessened 94 = .ok (.aload_n 0, 1) := by decide +kernel
theorem d_Mo_lessened_95 : decode b_Mo_lessened 95 = .ok (.getfield 32, 3) := by decide +kernel
theorem d_Mo_lessened_98 : decode b_Mo_lessened 98 = .ok (.iload_n 2, 1) := by decide +kernel
theorem d_Mo_lessened_99 : decode b_Mo_lessened 99 = .ok (.iinc 2 1, 3) := by decide +kernel
theorem d_Mo_lessened_102 : decode b_Mo_lessened 102 = .ok (.iload_n 3, 1) := by decide +kernel
theorem d_Mo_lessened_103 : decode b_Mo_lessened 103 = .ok (.iastore, 1) := by decide +kernel
theorem d_Mo_lessened_104 : decode b_Mo_lessened 104 = .ok (.aload_n 0, 1) := by decide +kernel
theorem d_Mo_lessened_105 : decode b_Mo_lessened 105 = .ok (.getfield 29, 3) := by decide +kernel
theorem d_Mo_lessened_108 : decode b_Mo_lessened 108 = .ok (.iload_n 3, 1) := by decide +kernel
theorem d_Mo_lessened_109 : decode b_Mo_lessened 109 = .ok (.iload 4, 2) := by decide +kernel
theorem d_Mo_lessened_111 : decode b_Mo_lessened 111 = .ok (.iastore, 1) := by decide +kernel
theorem d_Mo_lessened_112 : decode b_Mo_lessened 112 = .ok (.iinc 3 1, 3) := by decide +kernel
theorem d_Mo_lessened_115 : decode b_Mo_lessened 115 = .ok (.goto (-73), 3) := by decide +kernel
theorem d_Mo_lessened_118 : decode b_Mo_lessened 118 = .ok (.iconst 0, 1) := by decide +kernel
theorem d_Mo_lessened_119 : decode b_Mo_lessened 119 = .ok (.istore_n 3, 1) := by decide +kernel
theorem d_Mo_lessened_120 : decode b_Mo_lessened 120 = .ok (.iload_n 3, 1) := by decide +kernel
theorem d_Mo_lessened_121 : decode b_Mo_lessened 121 = .ok (.aload_n 0, 1) := by decide +kernel
theorem d_Mo_lessened_122 : decode b_Mo_lessened 122 = .ok (.getfield 95, 3) := by decide +kernel
theorem d_Mo_lessened_125 : decode b_Mo_lessened 125 = .ok (.if_icmp .ge 21, 3) := by decide +kernel
theorem d_Mo_lessened_128 : decode b_Mo_lessened 128 = .ok (.aload_n 0, 1) := by decide +kernel
theorem d_Mo_lessened_129 : decode b_Mo_lessened 129 = .ok (.getfield 26, 3) := by decide +kernel
theorem d_Mo_lessened_132 : decode b_Mo_lessened 132 = .ok (.iload_n 3, 1) := by decide +kernel
theorem d_Mo_lessened_133 : decode b_Mo_lessened 133 = .ok (.aload_n 0, 1) := by decide +kernel
theorem d_Mo_lessened_134 : decode b_Mo_lessened 134 = .ok (.getfield 29, 3) := by decide +kernel
theorem d_Mo_lessened_137 : decode b_Mo_lessened 137 = .ok (.iload_n 3, 1) := by decide +kernel
theorem d_Mo_lessened_138 : decode b_Mo_lessened 138 = .ok (.iaload, 1) := by decide +kernel
theorem d_Mo_lessened_139 : decode b_Mo_lessened 139 = .ok (.iastore, 1) := by decide +kernel
theorem d_Mo_lessened_140 : decode b_Mo_lessened 140 = .ok (.iinc 3 1, 3) := by decide +kernel
theorem d_Mo_lessened_143 : decode b_Mo_lessened 143 = .ok (.goto (-23), 3) := by decide +kernel
theorem d_Mo_lessened_146 : decode b_Mo_lessened 146 = .ok (.iload_n 2, 1) := by decide +kernel
theorem d_Mo_lessened_147 : decode b_Mo_lessened 147 = .ok (.iload_n 1, 1) := by decide +kernel
theorem d_Mo_lessened_148 : decode b_Mo_lessened 148 = .ok (.if_icmp .ne 6, 3) := by decide +kernel
theorem d_Mo_lessened_151 : decode b_Mo_lessened 151 = .ok (.goto 8, 3) := by decide +kernel
theorem d_Mo_lessened_154 : decode b_Mo_lessened 154 = .ok (.iload_n 2, 1) := by decide +kernel
theorem d_Mo_lessened_155 : decode b_Mo_lessened 155 = .ok (.istore_n 1, 1) := by decide +kernel
theorem d_Mo_lessened_156 : decode b_Mo_lessened 156 = .ok (.goto (-118), 3) := by decide +kernel
theorem d_Mo_lessened_159 : decode b_Mo_lessened 159 = .ok (.iconst 0, 1) := by decide +kernel
theorem d_Mo_lessened_160 : decode b_Mo_lessened 160 = .ok (.istore_n 2, 1) := by decide +kernel
theorem d_Mo_lessened_161 : decode b_Mo_lessened 161 = .ok (.aload_n 0, 1) := by decide +kernel
theorem d_Mo_lessened_162 : decode b_Mo_lessened 162 = .ok (.getfield 88, 3) := by decide +kernel
theorem d_Mo_lessened_165 : decode b_Mo_lessened 165 = .ok (.istore_n 3, 1) := by decide +kernel
theorem d_Mo_lessened_166 : decode b_Mo_lessened 166 = .ok (.iconst 0, 1) := by decide +kernel
theorem d_Mo_lessened_167 : decode b_Mo_lessened 167 = .ok (.istore 4, 2) := by decide +kernel
theorem d_Mo_lessened_169 : decode b_Mo_lessened 169 = .ok (.iload 4, 2) := by decide +kernel
theorem d_Mo_lessened_171 : decode b_Mo_lessened 171 = .ok (.iload_n 1, 1) := by decide +kernel
theorem d_Mo_lessened_172 : decode b_Mo_lessened 172 = .ok (.if_icmp .ge 17, 3) := by decide +kernel
theorem d_Mo_lessened_175 : decode b_Mo_lessened 175 = .ok (.aload_n 0, 1) := by decide +kernel
theorem d_Mo_lessened_176 : decode b_Mo_lessened 176 = .ok (.getfield 35, 3) := by decide +kernel
theorem d_Mo_lessened_179 : decode b_Mo_lessened 179 = .ok (.iload 4, 2) := by decide +kernel
theorem d_Mo_lessened_181 : decode b_Mo_lessened 181 = .ok (.iconst (-1), 1) := by decide +kernel
theorem d_Mo_lessened_182 : decode b_Mo_lessened 182 = .ok (.iastore, 1) := by decide +kernel
theorem d_Mo_lessened_183 : decode b_Mo_lessened 183 = .ok (.iinc 4 1, 3) := by decide +kernel
theorem d_Mo_lessened_186 : decode b_Mo_lessened 186 = .ok (.goto (-17), 3) := by decide +kernel
theorem d_Mo_lessened_189 : decode b_Mo_lessened 189 = .ok (.aload_n 0, 1) := by decide +kernel
theorem d_Mo_lessened_190 : decode b_Mo_lessened 190 = .ok (.getfield 35, 3) := by decide +kernel
theorem d_Mo_lessened_193 : decode b_Mo_lessened 193 = .ok (.aload_n 0, 1) := by decide +kernel
theorem d_Mo_lessened_194 : decode b_Mo_lessened 194 = .ok (.getfield 26, 3) := by decide +kernel
theorem d_Mo_lessened_197 : decode b_Mo_lessened 197 = .ok (.iconst 0, 1) := by decide +kernel
theorem d_Mo_lessened_198 : decode b_Mo_lessened 198 = .ok (.iaload, 1) := by decide +kernel
theorem d_Mo_lessened_199 : decode b_Mo_lessened 199 = .ok (.iload_n 2, 1) := by decide +kernel
theorem d_Mo_lessened_200 : decode b_Mo_lessened 200 = .ok (.iastore, 1) := by decide +kernel
theorem d_Mo_lessened_201 : decode b_Mo_lessened 201 = .ok (.aload_n 0, 1) := by decide +kernel
theorem d_Mo_lessened_202 : decode b_Mo_lessened 202 = .ok (.getfield 29, 3) := by decide +kernel
theorem d_Mo_lessened_205 : decode b_Mo_lessened 205 = .ok (.iload_n 2, 1) := by decide +kernel
theorem d_Mo_lessened_206 : decode b_Mo_lessened 206 = .ok (.iinc 2 1, 3) := by decide +kernel
theorem d_Mo_lessened_209 : decode b_Mo_lessened 209 = .ok (.aload_n 0, 1) := by decide +kernel
theorem d_Mo_lessened_210 : decode b_Mo_lessened 210 = .ok (.getfield 26, 3) := by decide +kernel
theorem d_Mo_lessened_213 : decode b_Mo_lessened 213 = .ok (.iconst 0, 1) := by decide +kernel
theorem d_Mo_lessened_214 : decode b_Mo_lessened 214 = .ok (.iaload, 1) := by decide +kernel
theorem d_Mo_lessened_215 : decode b_Mo_lessened 215 = .ok (.iastore, 1) := by decide +kernel
theorem d_Mo_lessened_216 : decode b_Mo_lessened 216 = .ok (.iconst 0, 1) := by decide +kernel
theorem d_Mo_lessened_217 : decode b_Mo_lessened 217 = .ok (.istore 4, 2) := by decide +kernel
theorem d_Mo_lessened_219 : decode b_Mo_lessened 219 = .ok (.iload 4, 2) := by decide +kernel
theorem d_Mo_lessened_221 : decode b_Mo_lessened 221 = .ok (.iload_n 2, 1) := by decide +kernel
theorem d_Mo_lessened_222 : decode b_Mo_lessened 222 = .ok (.if_icmp .ge 129, 3) := by decide +kernel
theorem d_Mo_lessened_225 : decode b_Mo_lessened 225 = .ok (.aload_n 0, 1) := by decide +kernel
theorem d_Mo_lessened_226 : decode b_Mo_lessened 226 = .ok (.getfield 32, 3) := by decide +kernel
theorem d_Mo_lessened_229 : decode b_Mo_lessened 229 = .ok (.aload_n 0, 1) := by decide +kernel
theorem d_Mo_lessened_230 : decode b_Mo_lessened 230 = .ok (.getfield 29, 3) := by decide +kernel
theorem d_Mo_lessened_233 : decode b_Mo_lessened 233 = .ok (.iload 4, 2) := by decide +kernel
theorem d_Mo_lessened_235 : decode b_Mo_lessened 235 = .ok (.iaload, 1) := by decide +kernel
theorem d_Mo_lessened_236 : decode b_Mo_lessened 236 = .ok (.iaload, 1) := by decide +kernel
theorem d_Mo_lessened_237 : decode b_Mo_lessened 237 = .ok (.istore 5, 2) := by decide +kernel
theorem d_Mo_lessened_239 : decode b_Mo_lessened 239 = .ok (.aload_n 0, 1) := by decide +kernel
theorem d_Mo_lessened_240 : decode b_Mo_lessened 240 = .ok (.getfield 16, 3) := by decide +kernel
theorem d_Mo_lessened_243 : decode b_Mo_lessened 243 = .ok (.bipush 64, 2) := by decide +kernel
theorem d_Mo_lessened_245 : decode b_Mo_lessened 245 = .ok (.iload_n 3, 1) := by decide +kernel
theorem d_Mo_lessened_246 : decode b_Mo_lessened 246 = .ok (.imul, 1) := by decide +kernel
theorem d_Mo_lessened_247 : decode b_Mo_lessened 247 = .ok (.iload 4, 2) := by decide +kernel
theorem d_Mo_lessened_249 : decode b_Mo_lessened 249 = .ok (.iadd, 1) := by decide +kernel
theorem d_Mo_lessened_250 : decode b_Mo_lessened 250 = .ok (.aload_n 0, 1) := by decide +kernel
theorem d_Mo_lessened_251 : decode b_Mo_lessened 251 = .ok (.getfield 42, 3) := by decide +kernel
theorem d_Mo_lessened_254 : decode b_Mo_lessened 254 = .ok (.iload 5, 2) := by decide +kernel
theorem d_Mo_lessened_256 : decode b_Mo_lessened 256 = .ok (.baload, 1) := by decide +kernel
theorem d_Mo_lessened_257 : decode b_Mo_lessened 257 = .ok (.bastore, 1) := by decide +kernel
theorem d_Mo_lessened_258 : decode b_Mo_lessened 258 = .ok (.iconst 0, 1) := by decide +kernel
theorem d_Mo_lessened_259 : decode b_Mo_lessened 259 = .ok (.istore 6, 2) := by decide +kernel
theorem d_Mo_lessened_261 : decode b_Mo_lessened 261 = .ok (.iload 6, 2) := by decide +kernel
theorem d_Mo_lessened_263 : decode b_Mo_lessened 263 = .ok (.iconst 4, 1) := by decide +kernel
theorem d_Mo_lessened_264 : decode b_Mo_lessened 264 = .ok (.if_icmp .ge 81, 3) := by decide +kernel
theorem d_Mo_lessened_267 : decode b_Mo_lessened 267 = .ok (.aload_n 0, 1) := by decide +kernel
theorem d_Mo_lessened_268 : decode b_Mo_lessened 268 = .ok (.getfield 26, 3) := by decide +kernel
theorem d_Mo_lessened_271 : decode b_Mo_lessened 271 = .ok (.aload_n 0, 1) := by decide +kernel
theorem d_Mo_lessened_272 : decode b_Mo_lessened 272 = .ok (.getfield 23, 3) := by decide +kernel
theorem d_Mo_lessened_275 : decode b_Mo_lessened 275 = .ok (.iconst 4, 1) := by decide +kernel
theorem d_Mo_lessened_276 : decode b_Mo_lessened 276 = .ok (.iload 5, 2) := by decide +kernel
theorem d_Mo_lessened_278 : decode b_Mo_lessened 278 = .ok (.imul, 1) := by decide +kernel
theorem d_Mo_lessened_279 : decode b_Mo_lessened 279 = .ok (.iload 6, 2) := by decide +kernel
theorem d_Mo_lessened_281 : decode b_Mo_lessened 281 = .ok (.iadd, 1) := by decide +kernel
theorem d_Mo_lessened_282 : decode b_Mo_lessened 282 = .ok (.iaload, 1) := by decide +kernel
theorem d_Mo_lessened_283 : decode b_Mo_lessened 283 = .ok (.iaload, 1) := by decide +kernel
theorem d_Mo_lessened_284 : decode b_Mo_lessened 284 = .ok (.istore 7, 2) := by decide +kernel
theorem d_Mo_lessened_286 : decode b_Mo_lessened 286 = .ok (.aload_n 0, 1) := by decide +kernel
theorem d_Mo_lessened_287 : decode b_Mo_lessened 287 = .ok (.getfield 35, 3) := by decide +kernel
theorem d_Mo_lessened_290 : decode b_Mo_lessened 290 = .ok (.iload 7, 2) := by decide +kernel
theorem d_Mo_lessened_292 : decode b_Mo_lessened 292 = .ok (.iaload, 1) := by decide +kernel
theorem d_Mo_lessened_293 : decode b_Mo_lessened 293 = .ok (.ifCond .ge 22, 3) := by decide +kernel
theorem d_Mo_lessened_296 : decode b_Mo_lessened 296 = .ok (.aload_n 0, 1) := by decide +kernel
theorem d_Mo_lessened_297 : decode b_Mo_lessened 297 = .ok (.getfield 35, 3) := by decide +kernel
theorem d_Mo_lessened_300 : decode b_Mo_lessened 300 = .ok (.iload 7, 2) := by decide +kernel
theorem d_Mo_lessened_302 : decode b_Mo_lessened 302 = .ok (.iload_n 2, 1) := by decide +kernel
theorem d_Mo_lessened_303 : decode b_Mo_lessened 303 = .ok (.iastore, 1) := by decide +kernel
theorem d_Mo_lessened_304 : decode b_Mo_lessened 304 = .ok (.aload_n 0, 1) := by decide +kernel
theorem d_Mo_lessened_305 : decode b_Mo_lessened 305 = .ok (.getfield 29, 3) := by decide +kernel
theorem d_Mo_lessened_308 : decode b_Mo_lessened 308 = .ok (.iload_n 2, 1) := by decide +kernel
theorem d_Mo_lessened_309 : decode b_Mo_lessened 309 = .ok (.iinc 2 1, 3) := by decide +kernel
theorem d_Mo_lessened_312 : decode b_Mo_lessened 312 = .ok (.iload 7, 2) := by decide +kernel
theorem d_Mo_lessened_314 : decode b_Mo_lessened 314 = .ok (.iastore, 1) := by decide +kernel
theorem d_Mo_lessened_315 : decode b_Mo_lessened 315 = .ok (.aload_n 0, 1) := by decide +kernel
theorem d_Mo_lessened_316 : decode b_Mo_lessened 316 = .ok (.getfield 13, 3) := by decide +kernel
theorem d_Mo_lessened_319 : decode b_Mo_lessened 319 = .ok (.iconst 4, 1) := by decide +kernel
theorem d_Mo_lessened_320 : decode b_Mo_lessened 320 = .ok (.bipush 64, 2) := by decide +kernel
theorem d_Mo_lessened_322 : decode b_Mo_lessened 322 = .ok (.iload_n 3, 1) := by decide +kernel
theorem d_Mo_lessened_323 : decode b_Mo_lessened 323 = .ok (.imul, 1) := by decide +kernel
theorem d_Mo_lessened_324 : decode b_Mo_lessened 324 = .ok (.iload 4, 2) := by decide +kernel
theorem d_Mo_lessened_326 : decode b_Mo_lessened 326 = .ok (.iadd, 1) := by decide +kernel
theorem d_Mo_lessened_327 : decode b_Mo_lessened 327 = .ok (.imul, 1) := by decide +kernel
theorem d_Mo_lessened_328 : decode b_Mo_lessened 328 = .ok (.iload 6, 2) := by decide +kernel
theorem d_Mo_lessened_330 : decode b_Mo_lessened 330 = .ok (.iadd, 1) := by decide +kernel
theorem d_Mo_lessened_331 : decode b_Mo_lessened 331 = .ok (.aload_n 0, 1) := by decide +kernel
theorem d_Mo_lessened_332 : decode b_Mo_lessened 332 = .ok (.getfield 35, 3) := by decide +kernel
theorem d_Mo_lessened_335 : decode b_Mo_lessened 335 = .ok (.iload 7, 2) := by decide +kernel
theorem d_Mo_lessened_337 : decode b_Mo_lessened 337 = .ok (.iaload, 1) := by decide +kernel
theorem d_Mo_lessened_338 : decode b_Mo_lessened 338 = .ok (.iastore, 1) := by decide +kernel
theorem d_Mo_lessened_339 : decode b_Mo_lessened 339 = .ok (.iinc 6 1, 3) := by decide +kernel
theorem d_Mo_lessened_342 : decode b_Mo_lessened 342 = .ok (.goto (-81), 3) := by decide +kernel
theorem d_Mo_lessened_345 : decode b_Mo_lessened 345 = .ok (.iinc 4 1, 3) := by decide +kernel
theorem d_Mo_lessened_348 : decode b_Mo_lessened 348 = .ok (.goto (-129), 3) := by decide +kernel
theorem d_Mo_lessened_351 : decode b_Mo_lessened 351 = .ok (.aload_n 0, 1) := by decide +kernel
theorem d_Mo_lessened_352 : decode b_Mo_lessened 352 = .ok (.getfield 9, 3) := by decide +kernel
theorem d_Mo_lessened_355 : decode b_Mo_lessened 355 = .ok (.iload_n 3, 1) := by decide +kernel
theorem d_Mo_lessened_356 : decode b_Mo_lessened 356 = .ok (.iload_n 2, 1) := by decide +kernel
theorem d_Mo_lessened_357 : decode b_Mo_lessened 357 = .ok (.iastore, 1) := by decide +kernel
theorem d_Mo_lessened_358 : decode b_Mo_lessened 358 = .ok (.iconst 1, 1) := by decide +kernel
theorem d_Mo_lessened_359 : decode b_Mo_lessened 359 = .ok (.ireturn, 1) := by decide +kernel
theorem fl_Mo_32 : (Cond.fieldLink "RegularSolverModel" 32 "RegularSolverModel" "leader" "[I") ∈ gW := gm 850 (by decide +kernel) (by decide +kernel)
theorem ml_Mo_121 : (Cond.methodLink "RegularSolverModel" 121 ({ cls := "RegularSolverModel", name := "alike", desc := "(II)Z" } : MethodName)) ∈ gW := gm 953 (by decide +kernel) (by decide +kernel)
theorem im_Mo_alike : (Cond.instanceMethod ({ cls := "RegularSolverModel", name := "alike", desc := "(II)Z" } : MethodName)) ∈ gW := gm 955 (by decide +kernel) (by decide +kernel)
theorem se_Mo_alike : (Cond.selects "RegularSolverModel" ({ cls := "RegularSolverModel", name := "alike", desc := "(II)Z" } : MethodName) ({ cls := "RegularSolverModel", name := "alike", desc := "(II)Z" } : MethodName)) ∈ gW := gs (by decide +kernel) (by decide +kernel)
theorem fl_Mo_29 : (Cond.fieldLink "RegularSolverModel" 29 "RegularSolverModel" "fresh" "[I") ∈ gW := gm 849 (by decide +kernel) (by decide +kernel)
theorem fl_Mo_35 : (Cond.fieldLink "RegularSolverModel" 35 "RegularSolverModel" "number" "[I") ∈ gW := gm 851 (by decide +kernel) (by decide +kernel)
section
variable {p : Program} {l : Launch} {e : Env} {R : Room} {s : State} {m : MethodId} {args : Array Value} {below : List Frame} {meth : Method} {c : Code} {H : Heap} {locs : List Loc} {cells slots : Nat} {Q : State → Prop} {A : Nat → Prop} {H0 : Heap}
variable {n : Nat} {D : va_G} {K : Nat → ClassId} {h : Nat} {a : Nat → Nat} {mErr : Int32} {mLanguages : Int32} {mBounds : Int32} {mSize : Nat → Int32} {mGoes : Nat → Int32} {mLast : Nat → Bool} {mLeft : Nat → Int32} {mNext : Nat → Int32} {mGroup : Nat → Int32} {mFresh : Nat → Int32} {mLeader : Nat → Int32} {mNumber : Nat → Int32} {mRight : Nat → Int64} {mEnds : Nat → Bool} {mWay : Int32} {mVariable : Nat → Int32} {mFactor : Nat → Int32} {mLeast : Nat → Int32} {mMost : Nat → Int32} {mLength : Nat → Int32} {mWord : Nat → Int64} {mKept : Bool} {mMany : Nat → Int64} {mMore : Nat → Int64} {mLeads : Nat → Int64} {mMet : Nat → Bool} {mTodo : Nat → Int32} {mMay : Nat → Bool} {mTries : Nat → Int32}
theorem pd_Mo_lessened : y_Mo_lessened.cls ≠ "java/lang/invoke/MethodHandle" ∧ y_Mo_lessened.cls ≠ "java/lang/invoke/VarHandle" ∧ (parseMethodDescriptor y_Mo_lessened.desc).map (fun d => d.parameters.length) = some 0 := by decide +kernel
def f_Mo_lessened_4 (n : Nat) (mEnds : Nat → Bool) (mWay : Int32) : Nat → Int32 → (Nat → Int32) → Option (Int32 × (Nat → Int32))
  | 0, _, _ => none
  | k + 1, v2, mGroup =>
    if mWay ≤ v2 then
      some (v2, mGroup)
    else
      ogd (gin v2 800) <|
      if (mEnds v2.toNatClampNeg) = true then
        ogd (gin v2 800) <|
        f_Mo_lessened_4 n mEnds mWay k (v2 + 1) (upd mGroup v2.toNatClampNeg 1)
      else
        ogd (gin v2 800) <|
        f_Mo_lessened_4 n mEnds mWay k (v2 + 1) (upd mGroup v2.toNatClampNeg 0)
set_option maxHeartbeats 4000000 in
set_option maxRecDepth 100000 in
theorem w_Mo_lessened_4  {v1 : Int32} (hx : p.tables.exec = Jvm.exec) (hb : c.code = b_Mo_lessened) (hml : c.maxLocals = 8) (hts : ∀ w ∈ gW, w.before args s = true) (hown : s.vm.findClass "RegularSolverModel" = some m.cls) (hK : va_K D vwCl (tG K) s) (hRf : 1 ≤ R.frames) (hRl : 23 ≤ R.locals) (hRc : cells ≤ R.cells) (hRs : slots ≤ R.slots) (hA : ∀ q, H0.size ≤ q → A q)  {out : Int32 × (Nat → Int32)} (Kx : ∀ (u : Int32 × (Nat → Int32)), out = u → ∀ (ls : Array Slot) (H : Heap) (locs : List Loc), va_P D vwCl (moW K h a mErr mLanguages mBounds mSize mGoes mLast mLeft mNext u.2 mFresh mLeader mNumber mRight mEnds mWay mVariable mFactor mLeast mMost mLength mWord mKept mMany mMore mLeads mMet mTodo mMay mTries) H → va_D A (moW K h a mErr mLanguages mBounds mSize mGoes mLast mLeft mNext u.2 mFresh mLeader mNumber mRight mEnds mWay mVariable mFactor mLeast mMost mLength mWord mKept mMany mMore mLeads mMet mTodo mMay mTries) → va_S A H0 H locs → lv_has ls 8 [(1, .int v1), (0, .ref h)] → W p l e R s m args below meth c H locs cells slots Q (F0 m 38 ls [])) :
    ∀ (k : Nat) (v2 : Int32) (mGroup : Nat → Int32), f_Mo_lessened_4 n mEnds mWay k v2 mGroup = some out → ∀ (ls : Array Slot) (H : Heap) (locs : List Loc), va_P D vwCl (moW K h a mErr mLanguages mBounds mSize mGoes mLast mLeft mNext mGroup mFresh mLeader mNumber mRight mEnds mWay mVariable mFactor mLeast mMost mLength mWord mKept mMany mMore mLeads mMet mTodo mMay mTries) H → va_D A (moW K h a mErr mLanguages mBounds mSize mGoes mLast mLeft mNext mGroup mFresh mLeader mNumber mRight mEnds mWay mVariable mFactor mLeast mMost mLength mWord mKept mMany mMore mLeads mMet mTodo mMay mTries) → va_S A H0 H locs → lv_has ls 8 [(2, .int v2), (1, .int v1), (0, .ref h)] → W p l e R s m args below meth c H locs cells slots Q (F0 m 4 ls []) := by
  intro k
  induction k with
  | zero => intro _ _ hf; exact nomatch (show none = some out from hf)
  | succ k ih =>
    intro v2 mGroup hf ls H locs hP hD hS hl
    rw [f_Mo_lessened_4] at hf
    refine lv_iload_n hx hb d_Mo_lessened_4 rfl (lv_at hl 0 rfl) ?_
    refine lv_aload_n hx hb d_Mo_lessened_5 rfl (lv_at hl 2 rfl) ?_
    refine va_get (D := D) (ci := 0) (v := .int mWay) (C := R_Mo) (T := T_Mo) (N := 29) hx hb hts in_Mo hown hK hP 0 rfl rfl 14 (by decide) (hts _ fl_Mo_95) (fun _ h9 => h9) rfl d_Mo_lessened_6 ?_
    refine lv_icmp_ge (tgt := 38) hx hb d_Mo_lessened_9 (by decide) (fun c6 => ?_) (fun c6 => ?_)
    · rw [if_pos c6] at hf
      exact Kx _ (Option.some.inj hf).symm _ _ _ hP hD hS (show lv_has ls 8 [(1, .int v1), (0, .ref h)] from lv_sub hl [1, 2] rfl)
    · rw [if_neg c6] at hf
      refine lv_aload_n hx hb d_Mo_lessened_12 rfl (lv_at hl 2 rfl) ?_
      refine va_get (D := D) (ci := 0) (v := .ref (a 5)) (C := R_Mo) (T := T_Mo) (N := 29) hx hb hts in_Mo hown hK hP 0 rfl rfl 8 (by decide) (hts _ fl_Mo_26) (fun _ h9 => h9) rfl d_Mo_lessened_13 ?_
      refine lv_iload_n hx hb d_Mo_lessened_16 rfl (lv_at hl 0 rfl) ?_
      refine lv_aload_n hx hb d_Mo_lessened_17 rfl (lv_at hl 2 rfl) ?_
      refine va_get (D := D) (ci := 0) (v := .ref (a 10)) (C := R_Mo) (T := T_Mo) (N := 29) hx hb hts in_Mo hown hK hP 0 rfl rfl 13 (by decide) (hts _ fl_Mo_42) (fun _ h9 => h9) rfl d_Mo_lessened_18 ?_
      refine lv_iload_n hx hb d_Mo_lessened_21 rfl (lv_at hl 0 rfl) ?_
      obtain ⟨g7, hf⟩ := ogi hf
      refine bz_ald hx hb hK hP 11 2 rfl rfl (gin_in g7) d_Mo_lessened_22 ?_
      refine bz_eq (tgt := 30) hx hb d_Mo_lessened_23 (by decide) (fun c8 => ?_) (fun c8 => ?_)
      · rw [if_neg c8] at hf
        refine lv_iconst (v := 0) hx hb d_Mo_lessened_30 (by decide) ?_
        obtain ⟨g9, hf⟩ := ogi hf
        refine va_iast hx hb hK hP hD hS 6 0 rfl rfl (gin_in g9) d_Mo_lessened_31 (fun H locs hP hD hS => ?_)
        have hP : va_P D vwCl (moW K h a mErr mLanguages mBounds mSize mGoes mLast mLeft mNext (upd mGroup v2.toNatClampNeg 0) mFresh mLeader mNumber mRight mEnds mWay mVariable mFactor mLeast mMost mLength mWord mKept mMany mMore mLeads mMet mTodo mMay mTries) H := hP
        have hD : va_D A (moW K h a mErr mLanguages mBounds mSize mGoes mLast mLeft mNext (upd mGroup v2.toNatClampNeg 0) mFresh mLeader mNumber mRight mEnds mWay mVariable mFactor mLeast mMost mLength mWord mKept mMany mMore mLeads mMet mTodo mMay mTries) := hD
        refine lv_iinc (v := v2 + 1) (lv' := [(2, .int (v2 + 1)), (1, .int v1), (0, .ref h)]) hx hb d_Mo_lessened_32 hl (k := 0) rfl (by first | rfl | (congr 1)) (by decide) rfl (fun ls hl => ?_)
        refine lv_goto (tgt := 4) hx hb d_Mo_lessened_35 (by decide) ?_
        exact ih _ _ hf _ _ _ hP hD hS (show lv_has ls 8 [(2, .int (v2 + 1)), (1, .int v1), (0, .ref h)] from lv_sub hl [0, 1, 2] rfl)
      · rw [if_pos c8] at hf
        refine lv_iconst (v := 1) hx hb d_Mo_lessened_26 (by decide) ?_
        refine lv_goto (tgt := 31) hx hb d_Mo_lessened_27 (by decide) ?_
        obtain ⟨g10, hf⟩ := ogi hf
        refine va_iast hx hb hK hP hD hS 6 0 rfl rfl (gin_in g10) d_Mo_lessened_31 (fun H locs hP hD hS => ?_)
        have hP : va_P D vwCl (moW K h a mErr mLanguages mBounds mSize mGoes mLast mLeft mNext (upd mGroup v2.toNatClampNeg 1) mFresh mLeader mNumber mRight mEnds mWay mVariable mFactor mLeast mMost mLength mWord mKept mMany mMore mLeads mMet mTodo mMay mTries) H := hP
        have hD : va_D A (moW K h a mErr mLanguages mBounds mSize mGoes mLast mLeft mNext (upd mGroup v2.toNatClampNeg 1) mFresh mLeader mNumber mRight mEnds mWay mVariable mFactor mLeast mMost mLength mWord mKept mMany mMore mLeads mMet mTodo mMay mTries) := hD
        refine lv_iinc (v := v2 + 1) (lv' := [(2, .int (v2 + 1)), (1, .int v1), (0, .ref h)]) hx hb d_Mo_lessened_32 hl (k := 0) rfl (by first | rfl | (congr 1)) (by decide) rfl (fun ls hl => ?_)
        refine lv_goto (tgt := 4) hx hb d_Mo_lessened_35 (by decide) ?_
        exact ih _ _ hf _ _ _ hP hD hS (show lv_has ls 8 [(2, .int (v2 + 1)), (1, .int v1), (0, .ref h)] from lv_sub hl [0, 1, 2] rfl)
def f_Mo_lessened_53 (n : Nat) (v3 : Int32) (v2 : Int32) (mNext : Nat → Int32) (mGroup : Nat → Int32) (mLeader : Nat → Int32) : Nat → Int32 → Option (Int32)
  | 0, _ => none
  | k + 1, v4 =>
    if v2 ≤ v4 then
      some v4
    else
      ogd (gin v4 800) <|
      (f_Mo_alike n v3 (mLeader v4.toNatClampNeg) mNext mGroup).bind fun u32 =>
      if u32 = true then
        some v4
      else
        f_Mo_lessened_53 n v3 v2 mNext mGroup mLeader k (v4 + 1)
set_option maxHeartbeats 4000000 in
set_option maxRecDepth 100000 in
theorem w_Mo_lessened_53  {v3 : Int32} {v2 : Int32} {v1 : Int32} (hx : p.tables.exec = Jvm.exec) (hb : c.code = b_Mo_lessened) (hml : c.maxLocals = 8) (hts : ∀ w ∈ gW, w.before args s = true) (hown : s.vm.findClass "RegularSolverModel" = some m.cls) (hK : va_K D vwCl (tG K) s) (hRf : 1 ≤ R.frames) (hRl : 23 ≤ R.locals) (hRc : cells ≤ R.cells) (hRs : slots ≤ R.slots) (hA : ∀ q, H0.size ≤ q → A q)  {out : Int32} (Kx : ∀ (u : Int32), out = u → ∀ (ls : Array Slot) (H : Heap) (locs : List Loc), va_P D vwCl (moW K h a mErr mLanguages mBounds mSize mGoes mLast mLeft mNext mGroup mFresh mLeader mNumber mRight mEnds mWay mVariable mFactor mLeast mMost mLength mWord mKept mMany mMore mLeads mMet mTodo mMay mTries) H → va_D A (moW K h a mErr mLanguages mBounds mSize mGoes mLast mLeft mNext mGroup mFresh mLeader mNumber mRight mEnds mWay mVariable mFactor mLeast mMost mLength mWord mKept mMany mMore mLeads mMet mTodo mMay mTries) → va_S A H0 H locs → lv_has ls 8 [(4, .int u), (3, .int v3), (2, .int v2), (1, .int v1), (0, .ref h)] → W p l e R s m args below meth c H locs cells slots Q (F0 m 80 ls [])) :
    ∀ (k : Nat) (v4 : Int32), f_Mo_lessened_53 n v3 v2 mNext mGroup mLeader k v4 = some out → ∀ (ls : Array Slot) (H : Heap) (locs : List Loc), va_P D vwCl (moW K h a mErr mLanguages mBounds mSize mGoes mLast mLeft mNext mGroup mFresh mLeader mNumber mRight mEnds mWay mVariable mFactor mLeast mMost mLength mWord mKept mMany mMore mLeads mMet mTodo mMay mTries) H → va_D A (moW K h a mErr mLanguages mBounds mSize mGoes mLast mLeft mNext mGroup mFresh mLeader mNumber mRight mEnds mWay mVariable mFactor mLeast mMost mLength mWord mKept mMany mMore mLeads mMet mTodo mMay mTries) → va_S A H0 H locs → lv_has ls 8 [(4, .int v4), (3, .int v3), (2, .int v2), (1, .int v1), (0, .ref h)] → W p l e R s m args below meth c H locs cells slots Q (F0 m 53 ls []) := by
  intro k
  induction k with
  | zero => intro _ hf; exact nomatch (show none = some out from hf)
  | succ k ih =>
    intro v4 hf ls H locs hP hD hS hl
    rw [f_Mo_lessened_53] at hf
    refine lv_iload hx hb d_Mo_lessened_53 (lv_at hl 0 rfl) ?_
    refine lv_iload_n hx hb d_Mo_lessened_55 rfl (lv_at hl 2 rfl) ?_
    refine lv_icmp_ge (tgt := 80) hx hb d_Mo_lessened_56 (by decide) (fun c30 => ?_) (fun c30 => ?_)
    · rw [if_pos c30] at hf
      exact Kx _ (Option.some.inj hf).symm _ _ _ hP hD hS (show lv_has ls 8 [(4, .int v4), (3, .int v3), (2, .int v2), (1, .int v1), (0, .ref h)] from lv_sub hl [0, 1, 2, 3, 4] rfl)
    · rw [if_neg c30] at hf
      refine lv_aload_n hx hb d_Mo_lessened_59 rfl (lv_at hl 4 rfl) ?_
      refine lv_iload_n hx hb d_Mo_lessened_60 rfl (lv_at hl 1 rfl) ?_
      refine lv_aload_n hx hb d_Mo_lessened_61 rfl (lv_at hl 4 rfl) ?_
      refine va_get (D := D) (ci := 0) (v := .ref (a 7)) (C := R_Mo) (T := T_Mo) (N := 29) hx hb hts in_Mo hown hK hP 0 rfl rfl 10 (by decide) (hts _ fl_Mo_32) (fun _ h9 => h9) rfl d_Mo_lessened_62 ?_
      refine lv_iload hx hb d_Mo_lessened_65 (lv_at hl 0 rfl) ?_
      obtain ⟨g31, hf⟩ := ogi hf
      refine va_iald hx hb hK hP 8 0 rfl rfl (gin_in g31) d_Mo_lessened_67 ?_
      obtain ⟨u32, eu32, hf⟩ := obd hf
      refine p_call (W.runV (As := [.int v3, .int (mLeader v4.toNatClampNeg)]) (rest := []) ⟨hx, hb, hml, hown, hts⟩ (c_Mo_alike l eu32) (gV 2 hts cd_Mo_alike ml_Mo_121 im_Mo_alike se_Mo_alike ini_Mo rfl rfl pd_Mo_alike ⟨Nat.le_trans (Nat.le_of_ble_eq_true rfl) hRf, Nat.le_trans (Nat.le_of_ble_eq_true rfl) hRl⟩) ⟨pPre_blind, va_recv hK hP (ci := 0) (q0 := 0) rfl rfl, pPre_of hP hK⟩ rfl rfl hl.1 rfl (lv_room (Nat.le_of_ble_eq_true rfl)) d_Mo_lessened_68 ⟨hRc, hRs⟩) ?_
      refine bz_ne (tgt := 80) hx hb d_Mo_lessened_71 (by decide) (fun c33 => ?_) (fun c33 => ?_)
      · rw [if_pos c33] at hf
        exact Kx _ (Option.some.inj hf).symm _ _ _ hP hD hS (show lv_has ls 8 [(4, .int v4), (3, .int v3), (2, .int v2), (1, .int v1), (0, .ref h)] from lv_sub hl [0, 1, 2, 3, 4] rfl)
      · rw [if_neg c33] at hf
        refine lv_iinc (v := v4 + 1) (lv' := [(4, .int (v4 + 1)), (3, .int v3), (2, .int v2), (1, .int v1), (0, .ref h)]) hx hb d_Mo_lessened_74 hl (k := 0) rfl (by first | rfl | (congr 1)) (by decide) rfl (fun ls hl => ?_)
        refine lv_goto (tgt := 53) hx hb d_Mo_lessened_77 (by decide) ?_
        exact ih _ hf _ _ _ hP hD hS (show lv_has ls 8 [(4, .int (v4 + 1)), (3, .int v3), (2, .int v2), (1, .int v1), (0, .ref h)] from lv_sub hl [0, 1, 2, 3, 4] rfl)
def f_Mo_lessened_42 (n : Nat) (mSize : Nat → Int32) (mGoes : Nat → Int32) (mLast : Nat → Bool) (mNext : Nat → Int32) (mGroup : Nat → Int32) (mNumber : Nat → Int32) (mWay : Int32) : Nat → Int32 → Int32 → (Nat → Int32) → (Nat → Int32) → Option ((Bool × (Nat → Int32) × (Nat → Int32) × (Nat → Bool) × (Nat → Int32) × (Nat → Int32) × (Nat → Int32) × (Nat → Int32)) ⊕ (Int32 × Int32 × (Nat → Int32) × (Nat → Int32)))
  | 0, _, _, _, _ => none
  | k + 1, v3, v2, mFresh, mLeader =>
    if mWay ≤ v3 then
      some (.inr (v3, v2, mFresh, mLeader))
    else
      (f_Mo_lessened_53 n v3 v2 mNext mGroup mLeader n 0).bind fun u34 =>
      if u34 = v2 then
        if v2 = 64 then
          some (.inl (false, mSize, mGoes, mLast, mGroup, mFresh, mLeader, mNumber))
        else
          ogd (gin v2 800) <|
          ogd (gin v3 800) <|
          f_Mo_lessened_42 n mSize mGoes mLast mNext mGroup mNumber mWay k (v3 + 1) (v2 + 1) (upd mFresh v3.toNatClampNeg u34) (upd mLeader v2.toNatClampNeg v3)
      else
        ogd (gin v3 800) <|
        f_Mo_lessened_42 n mSize mGoes mLast mNext mGroup mNumber mWay k (v3 + 1) v2 (upd mFresh v3.toNatClampNeg u34) mLeader
set_option maxHeartbeats 4000000 in
set_option maxRecDepth 100000 in
theorem w_Mo_lessened_42  {v1 : Int32} (hx : p.tables.exec = Jvm.exec) (hb : c.code = b_Mo_lessened) (hml : c.maxLocals = 8) (hts : ∀ w ∈ gW, w.before args s = true) (hown : s.vm.findClass "RegularSolverModel" = some m.cls) (hK : va_K D vwCl (tG K) s) (hRf : 1 ≤ R.frames) (hRl : 23 ≤ R.locals) (hRc : cells ≤ R.cells) (hRs : slots ≤ R.slots) (hA : ∀ q, H0.size ≤ q → A q)  {out : (Bool × (Nat → Int32) × (Nat → Int32) × (Nat → Bool) × (Nat → Int32) × (Nat → Int32) × (Nat → Int32) × (Nat → Int32)) ⊕ (Int32 × Int32 × (Nat → Int32) × (Nat → Int32))} (Kr : ∀ (r : Bool × (Nat → Int32) × (Nat → Int32) × (Nat → Bool) × (Nat → Int32) × (Nat → Int32) × (Nat → Int32) × (Nat → Int32)), out = .inl r → ∀ (pc : Nat) (ls : Array Slot) (H : Heap) (locs : List Loc), decode b_Mo_lessened pc = .ok (.ireturn, 1) → va_P D vwCl (moW K h a mErr mLanguages mBounds r.2.1 r.2.2.1 r.2.2.2.1 mLeft mNext r.2.2.2.2.1 r.2.2.2.2.2.1 r.2.2.2.2.2.2.1 r.2.2.2.2.2.2.2 mRight mEnds mWay mVariable mFactor mLeast mMost mLength mWord mKept mMany mMore mLeads mMet mTodo mMay mTries) H → va_D A (moW K h a mErr mLanguages mBounds r.2.1 r.2.2.1 r.2.2.2.1 mLeft mNext r.2.2.2.2.1 r.2.2.2.2.2.1 r.2.2.2.2.2.2.1 r.2.2.2.2.2.2.2 mRight mEnds mWay mVariable mFactor mLeast mMost mLength mWord mKept mMany mMore mLeads mMet mTodo mMay mTries) → va_S A H0 H locs → W p l e R s m args below meth c H locs cells slots Q (F0 m pc ls [.int (bI r.1)])) (Kx : ∀ (u : Int32 × Int32 × (Nat → Int32) × (Nat → Int32)), out = .inr u → ∀ (ls : Array Slot) (H : Heap) (locs : List Loc), va_P D vwCl (moW K h a mErr mLanguages mBounds mSize mGoes mLast mLeft mNext mGroup u.2.2.1 u.2.2.2 mNumber mRight mEnds mWay mVariable mFactor mLeast mMost mLength mWord mKept mMany mMore mLeads mMet mTodo mMay mTries) H → va_D A (moW K h a mErr mLanguages mBounds mSize mGoes mLast mLeft mNext mGroup u.2.2.1 u.2.2.2 mNumber mRight mEnds mWay mVariable mFactor mLeast mMost mLength mWord mKept mMany mMore mLeads mMet mTodo mMay mTries) → va_S A H0 H locs → lv_has ls 8 [(2, .int u.2.1), (1, .int v1), (0, .ref h)] → W p l e R s m args below meth c H locs cells slots Q (F0 m 118 ls [])) :
    ∀ (k : Nat) (v3 : Int32) (v2 : Int32) (mFresh : Nat → Int32) (mLeader : Nat → Int32), f_Mo_lessened_42 n mSize mGoes mLast mNext mGroup mNumber mWay k v3 v2 mFresh mLeader = some out → ∀ (ls : Array Slot) (H : Heap) (locs : List Loc), va_P D vwCl (moW K h a mErr mLanguages mBounds mSize mGoes mLast mLeft mNext mGroup mFresh mLeader mNumber mRight mEnds mWay mVariable mFactor mLeast mMost mLength mWord mKept mMany mMore mLeads mMet mTodo mMay mTries) H → va_D A (moW K h a mErr mLanguages mBounds mSize mGoes mLast mLeft mNext mGroup mFresh mLeader mNumber mRight mEnds mWay mVariable mFactor mLeast mMost mLength mWord mKept mMany mMore mLeads mMet mTodo mMay mTries) → va_S A H0 H locs → lv_has ls 8 [(3, .int v3), (2, .int v2), (1, .int v1), (0, .ref h)] → W p l e R s m args below meth c H locs cells slots Q (F0 m 42 ls []) := by
  intro k
  induction k with
  | zero => intro _ _ _ _ hf; exact nomatch (show none = some out from hf)
  | succ k ih =>
    intro v3 v2 mFresh mLeader hf ls H locs hP hD hS hl
    rw [f_Mo_lessened_42] at hf
    refine lv_iload_n hx hb d_Mo_lessened_42 rfl (lv_at hl 0 rfl) ?_
    refine lv_aload_n hx hb d_Mo_lessened_43 rfl (lv_at hl 3 rfl) ?_
    refine va_get (D := D) (ci := 0) (v := .int mWay) (C := R_Mo) (T := T_Mo) (N := 29) hx hb hts in_Mo hown hK hP 0 rfl rfl 14 (by decide) (hts _ fl_Mo_95) (fun _ h9 => h9) rfl d_Mo_lessened_44 ?_
    refine lv_icmp_ge (tgt := 118) hx hb d_Mo_lessened_47 (by decide) (fun c29 => ?_) (fun c29 => ?_)
    · rw [if_pos c29] at hf
      exact Kx _ (Option.some.inj hf).symm _ _ _ hP hD hS (show lv_has ls 8 [(2, .int v2), (1, .int v1), (0, .ref h)] from lv_sub hl [1, 2, 3] rfl)
    · rw [if_neg c29] at hf
      refine lv_iconst (v := 0) hx hb d_Mo_lessened_50 (by decide) ?_
      refine lv_istore (lv' := [(4, .int 0), (3, .int v3), (2, .int v2), (1, .int v1), (0, .ref h)]) hx hb d_Mo_lessened_51 hl (by decide) rfl (fun ls hl => ?_)
      obtain ⟨u34, eu34, hf⟩ := obd hf
      refine w_Mo_lessened_53 hx hb hml hts hown hK hRf hRl hRc hRs hA  (fun u34q eu ls H locs hP hD hS hl => ?_) _ _ eu34 _ _ _ hP hD hS (show lv_has ls 8 [(4, .int 0), (3, .int v3), (2, .int v2), (1, .int v1), (0, .ref h)] from lv_sub hl [0, 1, 2, 3, 4] rfl)
      subst eu
      refine lv_iload hx hb d_Mo_lessened_80 (lv_at hl 0 rfl) ?_
      refine lv_iload_n hx hb d_Mo_lessened_82 rfl (lv_at hl 2 rfl) ?_
      refine lv_icmp_ne (tgt := 104) hx hb d_Mo_lessened_83 (by decide) (fun c35 => ?_) (fun c35 => ?_)
      · rw [if_neg c35] at hf
        refine lv_aload_n hx hb d_Mo_lessened_104 rfl (lv_at hl 4 rfl) ?_
        refine va_get (D := D) (ci := 0) (v := .ref (a 6)) (C := R_Mo) (T := T_Mo) (N := 29) hx hb hts in_Mo hown hK hP 0 rfl rfl 9 (by decide) (hts _ fl_Mo_29) (fun _ h9 => h9) rfl d_Mo_lessened_105 ?_
        refine lv_iload_n hx hb d_Mo_lessened_108 rfl (lv_at hl 1 rfl) ?_
        refine lv_iload hx hb d_Mo_lessened_109 (lv_at hl 0 rfl) ?_
        obtain ⟨g36, hf⟩ := ogi hf
        refine va_iast hx hb hK hP hD hS 7 0 rfl rfl (gin_in g36) d_Mo_lessened_111 (fun H locs hP hD hS => ?_)
        have hP : va_P D vwCl (moW K h a mErr mLanguages mBounds mSize mGoes mLast mLeft mNext mGroup (upd mFresh v3.toNatClampNeg u34) mLeader mNumber mRight mEnds mWay mVariable mFactor mLeast mMost mLength mWord mKept mMany mMore mLeads mMet mTodo mMay mTries) H := hP
        have hD : va_D A (moW K h a mErr mLanguages mBounds mSize mGoes mLast mLeft mNext mGroup (upd mFresh v3.toNatClampNeg u34) mLeader mNumber mRight mEnds mWay mVariable mFactor mLeast mMost mLength mWord mKept mMany mMore mLeads mMet mTodo mMay mTries) := hD
        refine lv_iinc (v := v3 + 1) (lv' := [(3, .int (v3 + 1)), (4, .int u34), (2, .int v2), (1, .int v1), (0, .ref h)]) hx hb d_Mo_lessened_112 hl (k := 1) rfl (by first | rfl | (congr 1)) (by decide) rfl (fun ls hl => ?_)
        refine lv_goto (tgt := 42) hx hb d_Mo_lessened_115 (by decide) ?_
        exact ih _ _ _ _ hf _ _ _ hP hD hS (show lv_has ls 8 [(3, .int (v3 + 1)), (2, .int v2), (1, .int v1), (0, .ref h)] from lv_sub hl [0, 2, 3, 4] rfl)
      · rw [if_pos c35] at hf
        refine lv_iload_n hx hb d_Mo_lessened_86 rfl (lv_at hl 2 rfl) ?_
        refine lv_bipush (v := 64) hx hb d_Mo_lessened_87 (by decide) ?_
        refine lv_icmp_ne (tgt := 94) hx hb d_Mo_lessened_89 (by decide) (fun c37 => ?_) (fun c37 => ?_)
        · rw [if_neg c37] at hf
          refine lv_aload_n hx hb d_Mo_lessened_94 rfl (lv_at hl 4 rfl) ?_
          refine va_get (D := D) (ci := 0) (v := .ref (a 7)) (C := R_Mo) (T := T_Mo) (N := 29) hx hb hts in_Mo hown hK hP 0 rfl rfl 10 (by decide) (hts _ fl_Mo_32) (fun _ h9 => h9) rfl d_Mo_lessened_95 ?_
          refine lv_iload_n hx hb d_Mo_lessened_98 rfl (lv_at hl 2 rfl) ?_
          refine lv_iinc (v := v2 + 1) (lv' := [(2, .int (v2 + 1)), (4, .int u34), (3, .int v3), (1, .int v1), (0, .ref h)]) hx hb d_Mo_lessened_99 hl (k := 2) rfl (by first | rfl | (congr 1)) (by decide) rfl (fun ls hl => ?_)
          refine lv_iload_n hx hb d_Mo_lessened_102 rfl (lv_at hl 2 rfl) ?_
          obtain ⟨g38, hf⟩ := ogi hf
          refine va_iast hx hb hK hP hD hS 8 0 rfl rfl (gin_in g38) d_Mo_lessened_103 (fun H locs hP hD hS => ?_)
          have hP : va_P D vwCl (moW K h a mErr mLanguages mBounds mSize mGoes mLast mLeft mNext mGroup mFresh (upd mLeader v2.toNatClampNeg v3) mNumber mRight mEnds mWay mVariable mFactor mLeast mMost mLength mWord mKept mMany mMore mLeads mMet mTodo mMay mTries) H := hP
          have hD : va_D A (moW K h a mErr mLanguages mBounds mSize mGoes mLast mLeft mNext mGroup mFresh (upd mLeader v2.toNatClampNeg v3) mNumber mRight mEnds mWay mVariable mFactor mLeast mMost mLength mWord mKept mMany mMore mLeads mMet mTodo mMay mTries) := hD
          refine lv_aload_n hx hb d_Mo_lessened_104 rfl (lv_at hl 4 rfl) ?_
          refine va_get (D := D) (ci := 0) (v := .ref (a 6)) (C := R_Mo) (T := T_Mo) (N := 29) hx hb hts in_Mo hown hK hP 0 rfl rfl 9 (by decide) (hts _ fl_Mo_29) (fun _ h9 => h9) rfl d_Mo_lessened_105 ?_
          refine lv_iload_n hx hb d_Mo_lessened_108 rfl (lv_at hl 2 rfl) ?_
          refine lv_iload hx hb d_Mo_lessened_109 (lv_at hl 1 rfl) ?_
          obtain ⟨g39, hf⟩ := ogi hf
          refine va_iast hx hb hK hP hD hS 7 0 rfl rfl (gin_in g39) d_Mo_lessened_111 (fun H locs hP hD hS => ?_)
          have hP : va_P D vwCl (moW K h a mErr mLanguages mBounds mSize mGoes mLast mLeft mNext mGroup (upd mFresh v3.toNatClampNeg u34) (upd mLeader v2.toNatClampNeg v3) mNumber mRight mEnds mWay mVariable mFactor mLeast mMost mLength mWord mKept mMany mMore mLeads mMet mTodo mMay mTries) H := hP
          have hD : va_D A (moW K h a mErr mLanguages mBounds mSize mGoes mLast mLeft mNext mGroup (upd mFresh v3.toNatClampNeg u34) (upd mLeader v2.toNatClampNeg v3) mNumber mRight mEnds mWay mVariable mFactor mLeast mMost mLength mWord mKept mMany mMore mLeads mMet mTodo mMay mTries) := hD
          refine lv_iinc (v := v3 + 1) (lv' := [(3, .int (v3 + 1)), (2, .int (v2 + 1)), (4, .int u34), (1, .int v1), (0, .ref h)]) hx hb d_Mo_lessened_112 hl (k := 2) rfl (by first | rfl | (congr 1)) (by decide) rfl (fun ls hl => ?_)
          refine lv_goto (tgt := 42) hx hb d_Mo_lessened_115 (by decide) ?_
          exact ih _ _ _ _ hf _ _ _ hP hD hS (show lv_has ls 8 [(3, .int (v3 + 1)), (2, .int (v2 + 1)), (1, .int v1), (0, .ref h)] from lv_sub hl [0, 1, 3, 4] rfl)
        · rw [if_pos c37] at hf
          refine lv_iconst (v := 0) hx hb d_Mo_lessened_92 (by decide) ?_
          exact Kr _ (Option.some.inj hf).symm _ _ _ _ d_Mo_lessened_93 hP hD hS
def f_Mo_lessened_120 (n : Nat) (mFresh : Nat → Int32) (mWay : Int32) : Nat → Int32 → (Nat → Int32) → Option (Int32 × (Nat → Int32))
  | 0, _, _ => none
  | k + 1, v3, mGroup =>
    if mWay ≤ v3 then
      some (v3, mGroup)
    else
      ogd (gin v3 800) <|
      ogd (gin v3 800) <|
      f_Mo_lessened_120 n mFresh mWay k (v3 + 1) (upd mGroup v3.toNatClampNeg (mFresh v3.toNatClampNeg))
set_option maxHeartbeats 4000000 in
set_option maxRecDepth 100000 in
theorem w_Mo_lessened_120  {v2 : Int32} {v1 : Int32} (hx : p.tables.exec = Jvm.exec) (hb : c.code = b_Mo_lessened) (hml : c.maxLocals = 8) (hts : ∀ w ∈ gW, w.before args s = true) (hown : s.vm.findClass "RegularSolverModel" = some m.cls) (hK : va_K D vwCl (tG K) s) (hRf : 1 ≤ R.frames) (hRl : 23 ≤ R.locals) (hRc : cells ≤ R.cells) (hRs : slots ≤ R.slots) (hA : ∀ q, H0.size ≤ q → A q)  {out : Int32 × (Nat → Int32)} (Kx : ∀ (u : Int32 × (Nat → Int32)), out = u → ∀ (ls : Array Slot) (H : Heap) (locs : List Loc), va_P D vwCl (moW K h a mErr mLanguages mBounds mSize mGoes mLast mLeft mNext u.2 mFresh mLeader mNumber mRight mEnds mWay mVariable mFactor mLeast mMost mLength mWord mKept mMany mMore mLeads mMet mTodo mMay mTries) H → va_D A (moW K h a mErr mLanguages mBounds mSize mGoes mLast mLeft mNext u.2 mFresh mLeader mNumber mRight mEnds mWay mVariable mFactor mLeast mMost mLength mWord mKept mMany mMore mLeads mMet mTodo mMay mTries) → va_S A H0 H locs → lv_has ls 8 [(2, .int v2), (1, .int v1), (0, .ref h)] → W p l e R s m args below meth c H locs cells slots Q (F0 m 146 ls [])) :
    ∀ (k : Nat) (v3 : Int32) (mGroup : Nat → Int32), f_Mo_lessened_120 n mFresh mWay k v3 mGroup = some out → ∀ (ls : Array Slot) (H : Heap) (locs : List Loc), va_P D vwCl (moW K h a mErr mLanguages mBounds mSize mGoes mLast mLeft mNext mGroup mFresh mLeader mNumber mRight mEnds mWay mVariable mFactor mLeast mMost mLength mWord mKept mMany mMore mLeads mMet mTodo mMay mTries) H → va_D A (moW K h a mErr mLanguages mBounds mSize mGoes mLast mLeft mNext mGroup mFresh mLeader mNumber mRight mEnds mWay mVariable mFactor mLeast mMost mLength mWord mKept mMany mMore mLeads mMet mTodo mMay mTries) → va_S A H0 H locs → lv_has ls 8 [(3, .int v3), (2, .int v2), (1, .int v1), (0, .ref h)] → W p l e R s m args below meth c H locs cells slots Q (F0 m 120 ls []) := by
  intro k
  induction k with
  | zero => intro _ _ hf; exact nomatch (show none = some out from hf)
  | succ k ih =>
    intro v3 mGroup hf ls H locs hP hD hS hl
    rw [f_Mo_lessened_120] at hf
    refine lv_iload_n hx hb d_Mo_lessened_120 rfl (lv_at hl 0 rfl) ?_
    refine lv_aload_n hx hb d_Mo_lessened_121 rfl (lv_at hl 3 rfl) ?_
    refine va_get (D := D) (ci := 0) (v := .int mWay) (C := R_Mo) (T := T_Mo) (N := 29) hx hb hts in_Mo hown hK hP 0 rfl rfl 14 (by decide) (hts _ fl_Mo_95) (fun _ h9 => h9) rfl d_Mo_lessened_122 ?_
    refine lv_icmp_ge (tgt := 146) hx hb d_Mo_lessened_125 (by decide) (fun c41 => ?_) (fun c41 => ?_)
    · rw [if_pos c41] at hf
      exact Kx _ (Option.some.inj hf).symm _ _ _ hP hD hS (show lv_has ls 8 [(2, .int v2), (1, .int v1), (0, .ref h)] from lv_sub hl [1, 2, 3] rfl)
    · rw [if_neg c41] at hf
      refine lv_aload_n hx hb d_Mo_lessened_128 rfl (lv_at hl 3 rfl) ?_
      refine va_get (D := D) (ci := 0) (v := .ref (a 5)) (C := R_Mo) (T := T_Mo) (N := 29) hx hb hts in_Mo hown hK hP 0 rfl rfl 8 (by decide) (hts _ fl_Mo_26) (fun _ h9 => h9) rfl d_Mo_lessened_129 ?_
      refine lv_iload_n hx hb d_Mo_lessened_132 rfl (lv_at hl 0 rfl) ?_
      refine lv_aload_n hx hb d_Mo_lessened_133 rfl (lv_at hl 3 rfl) ?_
      refine va_get (D := D) (ci := 0) (v := .ref (a 6)) (C := R_Mo) (T := T_Mo) (N := 29) hx hb hts in_Mo hown hK hP 0 rfl rfl 9 (by decide) (hts _ fl_Mo_29) (fun _ h9 => h9) rfl d_Mo_lessened_134 ?_
      refine lv_iload_n hx hb d_Mo_lessened_137 rfl (lv_at hl 0 rfl) ?_
      obtain ⟨g42, hf⟩ := ogi hf
      refine va_iald hx hb hK hP 7 0 rfl rfl (gin_in g42) d_Mo_lessened_138 ?_
      obtain ⟨g43, hf⟩ := ogi hf
      refine va_iast hx hb hK hP hD hS 6 0 rfl rfl (gin_in g43) d_Mo_lessened_139 (fun H locs hP hD hS => ?_)
      have hP : va_P D vwCl (moW K h a mErr mLanguages mBounds mSize mGoes mLast mLeft mNext (upd mGroup v3.toNatClampNeg (mFresh v3.toNatClampNeg)) mFresh mLeader mNumber mRight mEnds mWay mVariable mFactor mLeast mMost mLength mWord mKept mMany mMore mLeads mMet mTodo mMay mTries) H := hP
      have hD : va_D A (moW K h a mErr mLanguages mBounds mSize mGoes mLast mLeft mNext (upd mGroup v3.toNatClampNeg (mFresh v3.toNatClampNeg)) mFresh mLeader mNumber mRight mEnds mWay mVariable mFactor mLeast mMost mLength mWord mKept mMany mMore mLeads mMet mTodo mMay mTries) := hD
      refine lv_iinc (v := v3 + 1) (lv' := [(3, .int (v3 + 1)), (2, .int v2), (1, .int v1), (0, .ref h)]) hx hb d_Mo_lessened_140 hl (k := 0) rfl (by first | rfl | (congr 1)) (by decide) rfl (fun ls hl => ?_)
      refine lv_goto (tgt := 120) hx hb d_Mo_lessened_143 (by decide) ?_
      exact ih _ _ hf _ _ _ hP hD hS (show lv_has ls 8 [(3, .int (v3 + 1)), (2, .int v2), (1, .int v1), (0, .ref h)] from lv_sub hl [0, 1, 2, 3] rfl)
def f_Mo_lessened_38 (n : Nat) (mSize : Nat → Int32) (mGoes : Nat → Int32) (mLast : Nat → Bool) (mNext : Nat → Int32) (mNumber : Nat → Int32) (mWay : Int32) : Nat → Int32 → (Nat → Int32) → (Nat → Int32) → (Nat → Int32) → Option ((Bool × (Nat → Int32) × (Nat → Int32) × (Nat → Bool) × (Nat → Int32) × (Nat → Int32) × (Nat → Int32) × (Nat → Int32)) ⊕ (Int32 × (Nat → Int32) × (Nat → Int32) × (Nat → Int32)))
  | 0, _, _, _, _ => none
  | k + 1, v1, mGroup, mFresh, mLeader =>
    (f_Mo_lessened_42 n mSize mGoes mLast mNext mGroup mNumber mWay n 0 0 mFresh mLeader).bind fun u40 => u40.elim (fun r => some (.inl r)) fun x40 =>
    (f_Mo_lessened_120 n x40.2.2.1 mWay n 0 mGroup).bind fun u44 =>
    if x40.2.1 = v1 then
      some (.inr (v1, u44.2, x40.2.2.1, x40.2.2.2))
    else
      f_Mo_lessened_38 n mSize mGoes mLast mNext mNumber mWay k x40.2.1 u44.2 x40.2.2.1 x40.2.2.2
set_option maxHeartbeats 4000000 in
set_option maxRecDepth 100000 in
theorem w_Mo_lessened_38   (hx : p.tables.exec = Jvm.exec) (hb : c.code = b_Mo_lessened) (hml : c.maxLocals = 8) (hts : ∀ w ∈ gW, w.before args s = true) (hown : s.vm.findClass "RegularSolverModel" = some m.cls) (hK : va_K D vwCl (tG K) s) (hRf : 1 ≤ R.frames) (hRl : 23 ≤ R.locals) (hRc : cells ≤ R.cells) (hRs : slots ≤ R.slots) (hA : ∀ q, H0.size ≤ q → A q)  {out : (Bool × (Nat → Int32) × (Nat → Int32) × (Nat → Bool) × (Nat → Int32) × (Nat → Int32) × (Nat → Int32) × (Nat → Int32)) ⊕ (Int32 × (Nat → Int32) × (Nat → Int32) × (Nat → Int32))} (Kr : ∀ (r : Bool × (Nat → Int32) × (Nat → Int32) × (Nat → Bool) × (Nat → Int32) × (Nat → Int32) × (Nat → Int32) × (Nat → Int32)), out = .inl r → ∀ (pc : Nat) (ls : Array Slot) (H : Heap) (locs : List Loc), decode b_Mo_lessened pc = .ok (.ireturn, 1) → va_P D vwCl (moW K h a mErr mLanguages mBounds r.2.1 r.2.2.1 r.2.2.2.1 mLeft mNext r.2.2.2.2.1 r.2.2.2.2.2.1 r.2.2.2.2.2.2.1 r.2.2.2.2.2.2.2 mRight mEnds mWay mVariable mFactor mLeast mMost mLength mWord mKept mMany mMore mLeads mMet mTodo mMay mTries) H → va_D A (moW K h a mErr mLanguages mBounds r.2.1 r.2.2.1 r.2.2.2.1 mLeft mNext r.2.2.2.2.1 r.2.2.2.2.2.1 r.2.2.2.2.2.2.1 r.2.2.2.2.2.2.2 mRight mEnds mWay mVariable mFactor mLeast mMost mLength mWord mKept mMany mMore mLeads mMet mTodo mMay mTries) → va_S A H0 H locs → W p l e R s m args below meth c H locs cells slots Q (F0 m pc ls [.int (bI r.1)])) (Kx : ∀ (u : Int32 × (Nat → Int32) × (Nat → Int32) × (Nat → Int32)), out = .inr u → ∀ (ls : Array Slot) (H : Heap) (locs : List Loc), va_P D vwCl (moW K h a mErr mLanguages mBounds mSize mGoes mLast mLeft mNext u.2.1 u.2.2.1 u.2.2.2 mNumber mRight mEnds mWay mVariable mFactor mLeast mMost mLength mWord mKept mMany mMore mLeads mMet mTodo mMay mTries) H → va_D A (moW K h a mErr mLanguages mBounds mSize mGoes mLast mLeft mNext u.2.1 u.2.2.1 u.2.2.2 mNumber mRight mEnds mWay mVariable mFactor mLeast mMost mLength mWord mKept mMany mMore mLeads mMet mTodo mMay mTries) → va_S A H0 H locs → lv_has ls 8 [(1, .int u.1), (0, .ref h)] → W p l e R s m args below meth c H locs cells slots Q (F0 m 151 ls [])) :
    ∀ (k : Nat) (v1 : Int32) (mGroup : Nat → Int32) (mFresh : Nat → Int32) (mLeader : Nat → Int32), f_Mo_lessened_38 n mSize mGoes mLast mNext mNumber mWay k v1 mGroup mFresh mLeader = some out → ∀ (ls : Array Slot) (H : Heap) (locs : List Loc), va_P D vwCl (moW K h a mErr mLanguages mBounds mSize mGoes mLast mLeft mNext mGroup mFresh mLeader mNumber mRight mEnds mWay mVariable mFactor mLeast mMost mLength mWord mKept mMany mMore mLeads mMet mTodo mMay mTries) H → va_D A (moW K h a mErr mLanguages mBounds mSize mGoes mLast mLeft mNext mGroup mFresh mLeader mNumber mRight mEnds mWay mVariable mFactor mLeast mMost mLength mWord mKept mMany mMore mLeads mMet mTodo mMay mTries) → va_S A H0 H locs → lv_has ls 8 [(1, .int v1), (0, .ref h)] → W p l e R s m args below meth c H locs cells slots Q (F0 m 38 ls []) := by
  intro k
  induction k with
  | zero => intro _ _ _ _ hf; exact nomatch (show none = some out from hf)
  | succ k ih =>
    intro v1 mGroup mFresh mLeader hf ls H locs hP hD hS hl
    rw [f_Mo_lessened_38] at hf
    refine lv_iconst (v := 0) hx hb d_Mo_lessened_38 (by decide) ?_
    refine lv_istore_n (lv' := [(2, .int 0), (1, .int v1), (0, .ref h)]) hx hb d_Mo_lessened_39 rfl hl (by decide) rfl (fun ls hl => ?_)
    refine lv_iconst (v := 0) hx hb d_Mo_lessened_40 (by decide) ?_
    refine lv_istore_n (lv' := [(3, .int 0), (2, .int 0), (1, .int v1), (0, .ref h)]) hx hb d_Mo_lessened_41 rfl hl (by decide) rfl (fun ls hl => ?_)
    obtain ⟨u40, eu40, hf⟩ := obd hf
    refine w_Mo_lessened_42 hx hb hml hts hown hK hRf hRl hRc hRs hA (fun r er pc ls H locs hd hP hD hS => Kr r (by subst er; exact (Option.some.inj hf).symm) pc ls H locs hd hP hD hS) (fun x40 eu ls H locs hP hD hS hl => ?_) _ _ _ _ _ eu40 _ _ _ hP hD hS (show lv_has ls 8 [(3, .int 0), (2, .int 0), (1, .int v1), (0, .ref h)] from lv_sub hl [0, 1, 2, 3] rfl)
    subst eu
    replace hf := oel hf
    refine lv_iconst (v := 0) hx hb d_Mo_lessened_118 (by decide) ?_
    refine lv_istore_n (lv' := [(3, .int 0), (2, .int x40.2.1), (1, .int v1), (0, .ref h)]) hx hb d_Mo_lessened_119 rfl hl (by decide) rfl (fun ls hl => ?_)
    obtain ⟨u44, eu44, hf⟩ := obd hf
    refine w_Mo_lessened_120 hx hb hml hts hown hK hRf hRl hRc hRs hA  (fun u44q eu ls H locs hP hD hS hl => ?_) _ _ _ eu44 _ _ _ hP hD hS (show lv_has ls 8 [(3, .int 0), (2, .int x40.2.1), (1, .int v1), (0, .ref h)] from lv_sub hl [0, 1, 2, 3] rfl)
    subst eu
    refine lv_iload_n hx hb d_Mo_lessened_146 rfl (lv_at hl 0 rfl) ?_
    refine lv_iload_n hx hb d_Mo_lessened_147 rfl (lv_at hl 1 rfl) ?_
    refine lv_icmp_ne (tgt := 154) hx hb d_Mo_lessened_148 (by decide) (fun c45 => ?_) (fun c45 => ?_)
    · rw [if_neg c45] at hf
      refine lv_iload_n hx hb d_Mo_lessened_154 rfl (lv_at hl 0 rfl) ?_
      refine lv_istore_n (lv' := [(1, .int x40.2.1), (2, .int x40.2.1), (0, .ref h)]) hx hb d_Mo_lessened_155 rfl hl (by decide) rfl (fun ls hl => ?_)
      refine lv_goto (tgt := 38) hx hb d_Mo_lessened_156 (by decide) ?_
      exact ih _ _ _ _ hf _ _ _ hP hD hS (show lv_has ls 8 [(1, .int x40.2.1), (0, .ref h)] from lv_sub hl [0, 2] rfl)
    · rw [if_pos c45] at hf
      exact Kx _ (Option.some.inj hf).symm _ _ _ hP hD hS (show lv_has ls 8 [(1, .int v1), (0, .ref h)] from lv_sub hl [1, 2] rfl)
def f_Mo_lessened_169 (n : Nat) (v1 : Int32) : Nat → Int32 → (Nat → Int32) → Option (Int32 × (Nat → Int32))
  | 0, _, _ => none
  | k + 1, v4, mNumber =>
    if v1 ≤ v4 then
      some (v4, mNumber)
    else
      ogd (gin v4 800) <|
      f_Mo_lessened_169 n v1 k (v4 + 1) (upd mNumber v4.toNatClampNeg (-1))
set_option maxHeartbeats 4000000 in
set_option maxRecDepth 100000 in
theorem w_Mo_lessened_169  {v3 : Int32} {v2 : Int32} {v1 : Int32} (hx : p.tables.exec = Jvm.exec) (hb : c.code = b_Mo_lessened) (hml : c.maxLocals = 8) (hts : ∀ w ∈ gW, w.before args s = true) (hown : s.vm.findClass "RegularSolverModel" = some m.cls) (hK : va_K D vwCl (tG K) s) (hRf : 1 ≤ R.frames) (hRl : 23 ≤ R.locals) (hRc : cells ≤ R.cells) (hRs : slots ≤ R.slots) (hA : ∀ q, H0.size ≤ q → A q)  {out : Int32 × (Nat → Int32)} (Kx : ∀ (u : Int32 × (Nat → Int32)), out = u → ∀ (ls : Array Slot) (H : Heap) (locs : List Loc), va_P D vwCl (moW K h a mErr mLanguages mBounds mSize mGoes mLast mLeft mNext mGroup mFresh mLeader u.2 mRight mEnds mWay mVariable mFactor mLeast mMost mLength mWord mKept mMany mMore mLeads mMet mTodo mMay mTries) H → va_D A (moW K h a mErr mLanguages mBounds mSize mGoes mLast mLeft mNext mGroup mFresh mLeader u.2 mRight mEnds mWay mVariable mFactor mLeast mMost mLength mWord mKept mMany mMore mLeads mMet mTodo mMay mTries) → va_S A H0 H locs → lv_has ls 8 [(3, .int v3), (2, .int v2), (0, .ref h)] → W p l e R s m args below meth c H locs cells slots Q (F0 m 189 ls [])) :
    ∀ (k : Nat) (v4 : Int32) (mNumber : Nat → Int32), f_Mo_lessened_169 n v1 k v4 mNumber = some out → ∀ (ls : Array Slot) (H : Heap) (locs : List Loc), va_P D vwCl (moW K h a mErr mLanguages mBounds mSize mGoes mLast mLeft mNext mGroup mFresh mLeader mNumber mRight mEnds mWay mVariable mFactor mLeast mMost mLength mWord mKept mMany mMore mLeads mMet mTodo mMay mTries) H → va_D A (moW K h a mErr mLanguages mBounds mSize mGoes mLast mLeft mNext mGroup mFresh mLeader mNumber mRight mEnds mWay mVariable mFactor mLeast mMost mLength mWord mKept mMany mMore mLeads mMet mTodo mMay mTries) → va_S A H0 H locs → lv_has ls 8 [(4, .int v4), (3, .int v3), (2, .int v2), (1, .int v1), (0, .ref h)] → W p l e R s m args below meth c H locs cells slots Q (F0 m 169 ls []) := by
  intro k
  induction k with
  | zero => intro _ _ hf; exact nomatch (show none = some out from hf)
  | succ k ih =>
    intro v4 mNumber hf ls H locs hP hD hS hl
    rw [f_Mo_lessened_169] at hf
    refine lv_iload hx hb d_Mo_lessened_169 (lv_at hl 0 rfl) ?_
    refine lv_iload_n hx hb d_Mo_lessened_171 rfl (lv_at hl 3 rfl) ?_
    refine lv_icmp_ge (tgt := 189) hx hb d_Mo_lessened_172 (by decide) (fun c49 => ?_) (fun c49 => ?_)
    · rw [if_pos c49] at hf
      exact Kx _ (Option.some.inj hf).symm _ _ _ hP hD hS (show lv_has ls 8 [(3, .int v3), (2, .int v2), (0, .ref h)] from lv_sub hl [1, 2, 4] rfl)
    · rw [if_neg c49] at hf
      refine lv_aload_n hx hb d_Mo_lessened_175 rfl (lv_at hl 4 rfl) ?_
      refine va_get (D := D) (ci := 0) (v := .ref (a 8)) (C := R_Mo) (T := T_Mo) (N := 29) hx hb hts in_Mo hown hK hP 0 rfl rfl 11 (by decide) (hts _ fl_Mo_35) (fun _ h9 => h9) rfl d_Mo_lessened_176 ?_
      refine lv_iload hx hb d_Mo_lessened_179 (lv_at hl 0 rfl) ?_
      refine lv_iconst (v := -1) hx hb d_Mo_lessened_181 (by decide) ?_
      obtain ⟨g50, hf⟩ := ogi hf
      refine va_iast hx hb hK hP hD hS 9 0 rfl rfl (gin_in g50) d_Mo_lessened_182 (fun H locs hP hD hS => ?_)
      have hP : va_P D vwCl (moW K h a mErr mLanguages mBounds mSize mGoes mLast mLeft mNext mGroup mFresh mLeader (upd mNumber v4.toNatClampNeg (-1)) mRight mEnds mWay mVariable mFactor mLeast mMost mLength mWord mKept mMany mMore mLeads mMet mTodo mMay mTries) H := hP
      have hD : va_D A (moW K h a mErr mLanguages mBounds mSize mGoes mLast mLeft mNext mGroup mFresh mLeader (upd mNumber v4.toNatClampNeg (-1)) mRight mEnds mWay mVariable mFactor mLeast mMost mLength mWord mKept mMany mMore mLeads mMet mTodo mMay mTries) := hD
      refine lv_iinc (v := v4 + 1) (lv' := [(4, .int (v4 + 1)), (3, .int v3), (2, .int v2), (1, .int v1), (0, .ref h)]) hx hb d_Mo_lessened_183 hl (k := 0) rfl (by first | rfl | (congr 1)) (by decide) rfl (fun ls hl => ?_)
      refine lv_goto (tgt := 169) hx hb d_Mo_lessened_186 (by decide) ?_
      exact ih _ _ hf _ _ _ hP hD hS (show lv_has ls 8 [(4, .int (v4 + 1)), (3, .int v3), (2, .int v2), (1, .int v1), (0, .ref h)] from lv_sub hl [0, 1, 2, 3, 4] rfl)
def f_Mo_lessened_261 (n : Nat) (v5 : Int32) (v4 : Int32) (v3 : Int32) (mNext : Nat → Int32) (mGroup : Nat → Int32) : Nat → Int32 → Int32 → (Nat → Int32) → (Nat → Int32) → (Nat → Int32) → Option (Int32 × Int32 × (Nat → Int32) × (Nat → Int32) × (Nat → Int32))
  | 0, _, _, _, _, _ => none
  | k + 1, v6, v2, mGoes, mFresh, mNumber =>
    if 4 ≤ v6 then
      some (v6, v2, mGoes, mFresh, mNumber)
    else
      ogd (gin ((4 * v5) + v6) 3200) <|
      ogd (gin (mNext ((4 * v5) + v6).toNatClampNeg) 800) <|
      ogd (gin (mGroup (mNext ((4 * v5) + v6).toNatClampNeg).toNatClampNeg) 800) <|
      if 0 ≤ (mNumber (mGroup (mNext ((4 * v5) + v6).toNatClampNeg).toNatClampNeg).toNatClampNeg) then
        ogd (gin (mGroup (mNext ((4 * v5) + v6).toNatClampNeg).toNatClampNeg) 800) <|
        ogd (gin ((4 * ((64 * v3) + v4)) + v6) 15360) <|
        f_Mo_lessened_261 n v5 v4 v3 mNext mGroup k (v6 + 1) v2 (upd mGoes ((4 * ((64 * v3) + v4)) + v6).toNatClampNeg (mNumber (mGroup (mNext ((4 * v5) + v6).toNatClampNeg).toNatClampNeg).toNatClampNeg)) mFresh mNumber
      else
        ogd (gin (mGroup (mNext ((4 * v5) + v6).toNatClampNeg).toNatClampNeg) 800) <|
        ogd (gin v2 800) <|
        ogd (gin (mGroup (mNext ((4 * v5) + v6).toNatClampNeg).toNatClampNeg) 800) <|
        ogd (gin ((4 * ((64 * v3) + v4)) + v6) 15360) <|
        f_Mo_lessened_261 n v5 v4 v3 mNext mGroup k (v6 + 1) (v2 + 1) (upd mGoes ((4 * ((64 * v3) + v4)) + v6).toNatClampNeg ((upd mNumber (mGroup (mNext ((4 * v5) + v6).toNatClampNeg).toNatClampNeg).toNatClampNeg v2) (mGroup (mNext ((4 * v5) + v6).toNatClampNeg).toNatClampNeg).toNatClampNeg)) (upd mFresh v2.toNatClampNeg (mGroup (mNext ((4 * v5) + v6).toNatClampNeg).toNatClampNeg)) (upd mNumber (mGroup (mNext ((4 * v5) + v6).toNatClampNeg).toNatClampNeg).toNatClampNeg v2)
set_option maxHeartbeats 4000000 in
set_option maxRecDepth 100000 in
theorem w_Mo_lessened_261  {v5 : Int32} {v4 : Int32} {v3 : Int32} (hx : p.tables.exec = Jvm.exec) (hb : c.code = b_Mo_lessened) (hml : c.maxLocals = 8) (hts : ∀ w ∈ gW, w.before args s = true) (hown : s.vm.findClass "RegularSolverModel" = some m.cls) (hK : va_K D vwCl (tG K) s) (hRf : 1 ≤ R.frames) (hRl : 23 ≤ R.locals) (hRc : cells ≤ R.cells) (hRs : slots ≤ R.slots) (hA : ∀ q, H0.size ≤ q → A q)  {out : Int32 × Int32 × (Nat → Int32) × (Nat → Int32) × (Nat → Int32)} (Kx : ∀ (u : Int32 × Int32 × (Nat → Int32) × (Nat → Int32) × (Nat → Int32)), out = u → ∀ (ls : Array Slot) (H : Heap) (locs : List Loc), va_P D vwCl (moW K h a mErr mLanguages mBounds mSize u.2.2.1 mLast mLeft mNext mGroup u.2.2.2.1 mLeader u.2.2.2.2 mRight mEnds mWay mVariable mFactor mLeast mMost mLength mWord mKept mMany mMore mLeads mMet mTodo mMay mTries) H → va_D A (moW K h a mErr mLanguages mBounds mSize u.2.2.1 mLast mLeft mNext mGroup u.2.2.2.1 mLeader u.2.2.2.2 mRight mEnds mWay mVariable mFactor mLeast mMost mLength mWord mKept mMany mMore mLeads mMet mTodo mMay mTries) → va_S A H0 H locs → lv_has ls 8 [(4, .int v4), (2, .int u.2.1), (3, .int v3), (0, .ref h)] → W p l e R s m args below meth c H locs cells slots Q (F0 m 345 ls [])) :
    ∀ (k : Nat) (v6 : Int32) (v2 : Int32) (mGoes : Nat → Int32) (mFresh : Nat → Int32) (mNumber : Nat → Int32), f_Mo_lessened_261 n v5 v4 v3 mNext mGroup k v6 v2 mGoes mFresh mNumber = some out → ∀ (ls : Array Slot) (H : Heap) (locs : List Loc), va_P D vwCl (moW K h a mErr mLanguages mBounds mSize mGoes mLast mLeft mNext mGroup mFresh mLeader mNumber mRight mEnds mWay mVariable mFactor mLeast mMost mLength mWord mKept mMany mMore mLeads mMet mTodo mMay mTries) H → va_D A (moW K h a mErr mLanguages mBounds mSize mGoes mLast mLeft mNext mGroup mFresh mLeader mNumber mRight mEnds mWay mVariable mFactor mLeast mMost mLength mWord mKept mMany mMore mLeads mMet mTodo mMay mTries) → va_S A H0 H locs → lv_has ls 8 [(6, .int v6), (5, .int v5), (4, .int v4), (2, .int v2), (3, .int v3), (0, .ref h)] → W p l e R s m args below meth c H locs cells slots Q (F0 m 261 ls []) := by
  intro k
  induction k with
  | zero => intro _ _ _ _ _ hf; exact nomatch (show none = some out from hf)
  | succ k ih =>
    intro v6 v2 mGoes mFresh mNumber hf ls H locs hP hD hS hl
    rw [f_Mo_lessened_261] at hf
    refine lv_iload hx hb d_Mo_lessened_261 (lv_at hl 0 rfl) ?_
    refine lv_iconst (v := 4) hx hb d_Mo_lessened_263 (by decide) ?_
    refine lv_icmp_ge (tgt := 345) hx hb d_Mo_lessened_264 (by decide) (fun c78 => ?_) (fun c78 => ?_)
    · rw [if_pos c78] at hf
      exact Kx _ (Option.some.inj hf).symm _ _ _ hP hD hS (show lv_has ls 8 [(4, .int v4), (2, .int v2), (3, .int v3), (0, .ref h)] from lv_sub hl [2, 3, 4, 5] rfl)
    · rw [if_neg c78] at hf
      refine lv_aload_n hx hb d_Mo_lessened_267 rfl (lv_at hl 5 rfl) ?_
      refine va_get (D := D) (ci := 0) (v := .ref (a 5)) (C := R_Mo) (T := T_Mo) (N := 29) hx hb hts in_Mo hown hK hP 0 rfl rfl 8 (by decide) (hts _ fl_Mo_26) (fun _ h9 => h9) rfl d_Mo_lessened_268 ?_
      refine lv_aload_n hx hb d_Mo_lessened_271 rfl (lv_at hl 5 rfl) ?_
      refine va_get (D := D) (ci := 0) (v := .ref (a 4)) (C := R_Mo) (T := T_Mo) (N := 29) hx hb hts in_Mo hown hK hP 0 rfl rfl 7 (by decide) (hts _ fl_Mo_23) (fun _ h9 => h9) rfl d_Mo_lessened_272 ?_
      refine lv_iconst (v := 4) hx hb d_Mo_lessened_275 (by decide) ?_
      refine lv_iload hx hb d_Mo_lessened_276 (lv_at hl 1 rfl) ?_
      refine lv_imul hx hb d_Mo_lessened_278 ?_
      refine lv_iload hx hb d_Mo_lessened_279 (lv_at hl 0 rfl) ?_
      refine lv_iadd hx hb d_Mo_lessened_281 ?_
      obtain ⟨g79, hf⟩ := ogi hf
      refine va_iald hx hb hK hP 5 0 rfl rfl (gin_in g79) d_Mo_lessened_282 ?_
      obtain ⟨g80, hf⟩ := ogi hf
      refine va_iald hx hb hK hP 6 0 rfl rfl (gin_in g80) d_Mo_lessened_283 ?_
      refine lv_istore (lv' := [(7, .int (mGroup (mNext ((4 * v5) + v6).toNatClampNeg).toNatClampNeg)), (6, .int v6), (5, .int v5), (4, .int v4), (2, .int v2), (3, .int v3), (0, .ref h)]) hx hb d_Mo_lessened_284 hl (by decide) rfl (fun ls hl => ?_)
      refine lv_aload_n hx hb d_Mo_lessened_286 rfl (lv_at hl 6 rfl) ?_
      refine va_get (D := D) (ci := 0) (v := .ref (a 8)) (C := R_Mo) (T := T_Mo) (N := 29) hx hb hts in_Mo hown hK hP 0 rfl rfl 11 (by decide) (hts _ fl_Mo_35) (fun _ h9 => h9) rfl d_Mo_lessened_287 ?_
      refine lv_iload hx hb d_Mo_lessened_290 (lv_at hl 0 rfl) ?_
      obtain ⟨g81, hf⟩ := ogi hf
      refine va_iald hx hb hK hP 9 0 rfl rfl (gin_in g81) d_Mo_lessened_292 ?_
      refine lv_if_ge (tgt := 315) hx hb d_Mo_lessened_293 (by decide) (fun c82 => ?_) (fun c82 => ?_)
      · rw [if_pos c82] at hf
        refine lv_aload_n hx hb d_Mo_lessened_315 rfl (lv_at hl 6 rfl) ?_
        refine va_get (D := D) (ci := 0) (v := .ref (a 1)) (C := R_Mo) (T := T_Mo) (N := 29) hx hb hts in_Mo hown hK hP 0 rfl rfl 4 (by decide) (hts _ fl_Mo_13) (fun _ h9 => h9) rfl d_Mo_lessened_316 ?_
        refine lv_iconst (v := 4) hx hb d_Mo_lessened_319 (by decide) ?_
        refine lv_bipush (v := 64) hx hb d_Mo_lessened_320 (by decide) ?_
        refine lv_iload_n hx hb d_Mo_lessened_322 rfl (lv_at hl 5 rfl) ?_
        refine lv_imul hx hb d_Mo_lessened_323 ?_
        refine lv_iload hx hb d_Mo_lessened_324 (lv_at hl 3 rfl) ?_
        refine lv_iadd hx hb d_Mo_lessened_326 ?_
        refine lv_imul hx hb d_Mo_lessened_327 ?_
        refine lv_iload hx hb d_Mo_lessened_328 (lv_at hl 1 rfl) ?_
        refine lv_iadd hx hb d_Mo_lessened_330 ?_
        refine lv_aload_n hx hb d_Mo_lessened_331 rfl (lv_at hl 6 rfl) ?_
        refine va_get (D := D) (ci := 0) (v := .ref (a 8)) (C := R_Mo) (T := T_Mo) (N := 29) hx hb hts in_Mo hown hK hP 0 rfl rfl 11 (by decide) (hts _ fl_Mo_35) (fun _ h9 => h9) rfl d_Mo_lessened_332 ?_
        refine lv_iload hx hb d_Mo_lessened_335 (lv_at hl 0 rfl) ?_
        obtain ⟨g83, hf⟩ := ogi hf
        refine va_iald hx hb hK hP 9 0 rfl rfl (gin_in g83) d_Mo_lessened_337 ?_
        obtain ⟨g84, hf⟩ := ogi hf
        refine va_iast hx hb hK hP hD hS 2 0 rfl rfl (gin_in g84) d_Mo_lessened_338 (fun H locs hP hD hS => ?_)
        have hP : va_P D vwCl (moW K h a mErr mLanguages mBounds mSize (upd mGoes ((4 * ((64 * v3) + v4)) + v6).toNatClampNeg (mNumber (mGroup (mNext ((4 * v5) + v6).toNatClampNeg).toNatClampNeg).toNatClampNeg)) mLast mLeft mNext mGroup mFresh mLeader mNumber mRight mEnds mWay mVariable mFactor mLeast mMost mLength mWord mKept mMany mMore mLeads mMet mTodo mMay mTries) H := hP
        have hD : va_D A (moW K h a mErr mLanguages mBounds mSize (upd mGoes ((4 * ((64 * v3) + v4)) + v6).toNatClampNeg (mNumber (mGroup (mNext ((4 * v5) + v6).toNatClampNeg).toNatClampNeg).toNatClampNeg)) mLast mLeft mNext mGroup mFresh mLeader mNumber mRight mEnds mWay mVariable mFactor mLeast mMost mLength mWord mKept mMany mMore mLeads mMet mTodo mMay mTries) := hD
        refine lv_iinc (v := v6 + 1) (lv' := [(6, .int (v6 + 1)), (7, .int (mGroup (mNext ((4 * v5) + v6).toNatClampNeg).toNatClampNeg)), (5, .int v5), (4, .int v4), (2, .int v2), (3, .int v3), (0, .ref h)]) hx hb d_Mo_lessened_339 hl (k := 1) rfl (by first | rfl | (congr 1)) (by decide) rfl (fun ls hl => ?_)
        refine lv_goto (tgt := 261) hx hb d_Mo_lessened_342 (by decide) ?_
        exact ih _ _ _ _ _ hf _ _ _ hP hD hS (show lv_has ls 8 [(6, .int (v6 + 1)), (5, .int v5), (4, .int v4), (2, .int v2), (3, .int v3), (0, .ref h)] from lv_sub hl [0, 2, 3, 4, 5, 6] rfl)
      · rw [if_neg c82] at hf
        refine lv_aload_n hx hb d_Mo_lessened_296 rfl (lv_at hl 6 rfl) ?_
        refine va_get (D := D) (ci := 0) (v := .ref (a 8)) (C := R_Mo) (T := T_Mo) (N := 29) hx hb hts in_Mo hown hK hP 0 rfl rfl 11 (by decide) (hts _ fl_Mo_35) (fun _ h9 => h9) rfl d_Mo_lessened_297 ?_
        refine lv_iload hx hb d_Mo_lessened_300 (lv_at hl 0 rfl) ?_
        refine lv_iload_n hx hb d_Mo_lessened_302 rfl (lv_at hl 4 rfl) ?_
        obtain ⟨g85, hf⟩ := ogi hf
        refine va_iast hx hb hK hP hD hS 9 0 rfl rfl (gin_in g85) d_Mo_lessened_303 (fun H locs hP hD hS => ?_)
        have hP : va_P D vwCl (moW K h a mErr mLanguages mBounds mSize mGoes mLast mLeft mNext mGroup mFresh mLeader (upd mNumber (mGroup (mNext ((4 * v5) + v6).toNatClampNeg).toNatClampNeg).toNatClampNeg v2) mRight mEnds mWay mVariable mFactor mLeast mMost mLength mWord mKept mMany mMore mLeads mMet mTodo mMay mTries) H := hP
        have hD : va_D A (moW K h a mErr mLanguages mBounds mSize mGoes mLast mLeft mNext mGroup mFresh mLeader (upd mNumber (mGroup (mNext ((4 * v5) + v6).toNatClampNeg).toNatClampNeg).toNatClampNeg v2) mRight mEnds mWay mVariable mFactor mLeast mMost mLength mWord mKept mMany mMore mLeads mMet mTodo mMay mTries) := hD
        refine lv_aload_n hx hb d_Mo_lessened_304 rfl (lv_at hl 6 rfl) ?_
        refine va_get (D := D) (ci := 0) (v := .ref (a 6)) (C := R_Mo) (T := T_Mo) (N := 29) hx hb hts in_Mo hown hK hP 0 rfl rfl 9 (by decide) (hts _ fl_Mo_29) (fun _ h9 => h9) rfl d_Mo_lessened_305 ?_
        refine lv_iload_n hx hb d_Mo_lessened_308 rfl (lv_at hl 4 rfl) ?_
        refine lv_iinc (v := v2 + 1) (lv' := [(2, .int (v2 + 1)), (7, .int (mGroup (mNext ((4 * v5) + v6).toNatClampNeg).toNatClampNeg)), (6, .int v6), (5, .int v5), (4, .int v4), (3, .int v3), (0, .ref h)]) hx hb d_Mo_lessened_309 hl (k := 4) rfl (by first | rfl | (congr 1)) (by decide) rfl (fun ls hl => ?_)
        refine lv_iload hx hb d_Mo_lessened_312 (lv_at hl 1 rfl) ?_
        obtain ⟨g86, hf⟩ := ogi hf
        refine va_iast hx hb hK hP hD hS 7 0 rfl rfl (gin_in g86) d_Mo_lessened_314 (fun H locs hP hD hS => ?_)
        have hP : va_P D vwCl (moW K h a mErr mLanguages mBounds mSize mGoes mLast mLeft mNext mGroup (upd mFresh v2.toNatClampNeg (mGroup (mNext ((4 * v5) + v6).toNatClampNeg).toNatClampNeg)) mLeader (upd mNumber (mGroup (mNext ((4 * v5) + v6).toNatClampNeg).toNatClampNeg).toNatClampNeg v2) mRight mEnds mWay mVariable mFactor mLeast mMost mLength mWord mKept mMany mMore mLeads mMet mTodo mMay mTries) H := hP
        have hD : va_D A (moW K h a mErr mLanguages mBounds mSize mGoes mLast mLeft mNext mGroup (upd mFresh v2.toNatClampNeg (mGroup (mNext ((4 * v5) + v6).toNatClampNeg).toNatClampNeg)) mLeader (upd mNumber (mGroup (mNext ((4 * v5) + v6).toNatClampNeg).toNatClampNeg).toNatClampNeg v2) mRight mEnds mWay mVariable mFactor mLeast mMost mLength mWord mKept mMany mMore mLeads mMet mTodo mMay mTries) := hD
        refine lv_aload_n hx hb d_Mo_lessened_315 rfl (lv_at hl 6 rfl) ?_
        refine va_get (D := D) (ci := 0) (v := .ref (a 1)) (C := R_Mo) (T := T_Mo) (N := 29) hx hb hts in_Mo hown hK hP 0 rfl rfl 4 (by decide) (hts _ fl_Mo_13) (fun _ h9 => h9) rfl d_Mo_lessened_316 ?_
        refine lv_iconst (v := 4) hx hb d_Mo_lessened_319 (by decide) ?_
        refine lv_bipush (v := 64) hx hb d_Mo_lessened_320 (by decide) ?_
        refine lv_iload_n hx hb d_Mo_lessened_322 rfl (lv_at hl 5 rfl) ?_
        refine lv_imul hx hb d_Mo_lessened_323 ?_
        refine lv_iload hx hb d_Mo_lessened_324 (lv_at hl 4 rfl) ?_
        refine lv_iadd hx hb d_Mo_lessened_326 ?_
        refine lv_imul hx hb d_Mo_lessened_327 ?_
        refine lv_iload hx hb d_Mo_lessened_328 (lv_at hl 2 rfl) ?_
        refine lv_iadd hx hb d_Mo_lessened_330 ?_
        refine lv_aload_n hx hb d_Mo_lessened_331 rfl (lv_at hl 6 rfl) ?_
        refine va_get (D := D) (ci := 0) (v := .ref (a 8)) (C := R_Mo) (T := T_Mo) (N := 29) hx hb hts in_Mo hown hK hP 0 rfl rfl 11 (by decide) (hts _ fl_Mo_35) (fun _ h9 => h9) rfl d_Mo_lessened_332 ?_
        refine lv_iload hx hb d_Mo_lessened_335 (lv_at hl 1 rfl) ?_
        obtain ⟨g87, hf⟩ := ogi hf
        refine va_iald hx hb hK hP 9 0 rfl rfl (gin_in g87) d_Mo_lessened_337 ?_
        obtain ⟨g88, hf⟩ := ogi hf
        refine va_iast hx hb hK hP hD hS 2 0 rfl rfl (gin_in g88) d_Mo_lessened_338 (fun H locs hP hD hS => ?_)
        have hP : va_P D vwCl (moW K h a mErr mLanguages mBounds mSize (upd mGoes ((4 * ((64 * v3) + v4)) + v6).toNatClampNeg ((upd mNumber (mGroup (mNext ((4 * v5) + v6).toNatClampNeg).toNatClampNeg).toNatClampNeg v2) (mGroup (mNext ((4 * v5) + v6).toNatClampNeg).toNatClampNeg).toNatClampNeg)) mLast mLeft mNext mGroup (upd mFresh v2.toNatClampNeg (mGroup (mNext ((4 * v5) + v6).toNatClampNeg).toNatClampNeg)) mLeader (upd mNumber (mGroup (mNext ((4 * v5) + v6).toNatClampNeg).toNatClampNeg).toNatClampNeg v2) mRight mEnds mWay mVariable mFactor mLeast mMost mLength mWord mKept mMany mMore mLeads mMet mTodo mMay mTries) H := hP
        have hD : va_D A (moW K h a mErr mLanguages mBounds mSize (upd mGoes ((4 * ((64 * v3) + v4)) + v6).toNatClampNeg ((upd mNumber (mGroup (mNext ((4 * v5) + v6).toNatClampNeg).toNatClampNeg).toNatClampNeg v2) (mGroup (mNext ((4 * v5) + v6).toNatClampNeg).toNatClampNeg).toNatClampNeg)) mLast mLeft mNext mGroup (upd mFresh v2.toNatClampNeg (mGroup (mNext ((4 * v5) + v6).toNatClampNeg).toNatClampNeg)) mLeader (upd mNumber (mGroup (mNext ((4 * v5) + v6).toNatClampNeg).toNatClampNeg).toNatClampNeg v2) mRight mEnds mWay mVariable mFactor mLeast mMost mLength mWord mKept mMany mMore mLeads mMet mTodo mMay mTries) := hD
        refine lv_iinc (v := v6 + 1) (lv' := [(6, .int (v6 + 1)), (2, .int (v2 + 1)), (7, .int (mGroup (mNext ((4 * v5) + v6).toNatClampNeg).toNatClampNeg)), (5, .int v5), (4, .int v4), (3, .int v3), (0, .ref h)]) hx hb d_Mo_lessened_339 hl (k := 2) rfl (by first | rfl | (congr 1)) (by decide) rfl (fun ls hl => ?_)
        refine lv_goto (tgt := 261) hx hb d_Mo_lessened_342 (by decide) ?_
        exact ih _ _ _ _ _ hf _ _ _ hP hD hS (show lv_has ls 8 [(6, .int (v6 + 1)), (5, .int v5), (4, .int v4), (2, .int (v2 + 1)), (3, .int v3), (0, .ref h)] from lv_sub hl [0, 3, 4, 1, 5, 6] rfl)
def f_Mo_lessened_219 (n : Nat) (v3 : Int32) (mNext : Nat → Int32) (mGroup : Nat → Int32) (mLeader : Nat → Int32) (mEnds : Nat → Bool) : Nat → Int32 → Int32 → (Nat → Int32) → (Nat → Bool) → (Nat → Int32) → (Nat → Int32) → Option (Int32 × Int32 × (Nat → Int32) × (Nat → Bool) × (Nat → Int32) × (Nat → Int32))
  | 0, _, _, _, _, _, _ => none
  | k + 1, v4, v2, mGoes, mLast, mFresh, mNumber =>
    if v2 ≤ v4 then
      some (v4, v2, mGoes, mLast, mFresh, mNumber)
    else
      ogd (gin v4 800) <|
      ogd (gin (mFresh v4.toNatClampNeg) 800) <|
      ogd (gin (mLeader (mFresh v4.toNatClampNeg).toNatClampNeg) 800) <|
      ogd (gin ((64 * v3) + v4) 3840) <|
      (f_Mo_lessened_261 n (mLeader (mFresh v4.toNatClampNeg).toNatClampNeg) v4 v3 mNext mGroup n 0 v2 mGoes mFresh mNumber).bind fun u89 =>
      f_Mo_lessened_219 n v3 mNext mGroup mLeader mEnds k (v4 + 1) u89.2.1 u89.2.2.1 (va_up mLast ((64 * v3) + v4).toNatClampNeg (mEnds (mLeader (mFresh v4.toNatClampNeg).toNatClampNeg).toNatClampNeg)) u89.2.2.2.1 u89.2.2.2.2
set_option maxHeartbeats 4000000 in
set_option maxRecDepth 100000 in
theorem w_Mo_lessened_219  {v3 : Int32} (hx : p.tables.exec = Jvm.exec) (hb : c.code = b_Mo_lessened) (hml : c.maxLocals = 8) (hts : ∀ w ∈ gW, w.before args s = true) (hown : s.vm.findClass "RegularSolverModel" = some m.cls) (hK : va_K D vwCl (tG K) s) (hRf : 1 ≤ R.frames) (hRl : 23 ≤ R.locals) (hRc : cells ≤ R.cells) (hRs : slots ≤ R.slots) (hA : ∀ q, H0.size ≤ q → A q)  {out : Int32 × Int32 × (Nat → Int32) × (Nat → Bool) × (Nat → Int32) × (Nat → Int32)} (Kx : ∀ (u : Int32 × Int32 × (Nat → Int32) × (Nat → Bool) × (Nat → Int32) × (Nat → Int32)), out = u → ∀ (ls : Array Slot) (H : Heap) (locs : List Loc), va_P D vwCl (moW K h a mErr mLanguages mBounds mSize u.2.2.1 u.2.2.2.1 mLeft mNext mGroup u.2.2.2.2.1 mLeader u.2.2.2.2.2 mRight mEnds mWay mVariable mFactor mLeast mMost mLength mWord mKept mMany mMore mLeads mMet mTodo mMay mTries) H → va_D A (moW K h a mErr mLanguages mBounds mSize u.2.2.1 u.2.2.2.1 mLeft mNext mGroup u.2.2.2.2.1 mLeader u.2.2.2.2.2 mRight mEnds mWay mVariable mFactor mLeast mMost mLength mWord mKept mMany mMore mLeads mMet mTodo mMay mTries) → va_S A H0 H locs → lv_has ls 8 [(2, .int u.2.1), (3, .int v3), (0, .ref h)] → W p l e R s m args below meth c H locs cells slots Q (F0 m 351 ls [])) :
    ∀ (k : Nat) (v4 : Int32) (v2 : Int32) (mGoes : Nat → Int32) (mLast : Nat → Bool) (mFresh : Nat → Int32) (mNumber : Nat → Int32), f_Mo_lessened_219 n v3 mNext mGroup mLeader mEnds k v4 v2 mGoes mLast mFresh mNumber = some out → ∀ (ls : Array Slot) (H : Heap) (locs : List Loc), va_P D vwCl (moW K h a mErr mLanguages mBounds mSize mGoes mLast mLeft mNext mGroup mFresh mLeader mNumber mRight mEnds mWay mVariable mFactor mLeast mMost mLength mWord mKept mMany mMore mLeads mMet mTodo mMay mTries) H → va_D A (moW K h a mErr mLanguages mBounds mSize mGoes mLast mLeft mNext mGroup mFresh mLeader mNumber mRight mEnds mWay mVariable mFactor mLeast mMost mLength mWord mKept mMany mMore mLeads mMet mTodo mMay mTries) → va_S A H0 H locs → lv_has ls 8 [(4, .int v4), (2, .int v2), (3, .int v3), (0, .ref h)] → W p l e R s m args below meth c H locs cells slots Q (F0 m 219 ls []) := by
  intro k
  induction k with
  | zero => intro _ _ _ _ _ _ hf; exact nomatch (show none = some out from hf)
  | succ k ih =>
    intro v4 v2 mGoes mLast mFresh mNumber hf ls H locs hP hD hS hl
    rw [f_Mo_lessened_219] at hf
    refine lv_iload hx hb d_Mo_lessened_219 (lv_at hl 0 rfl) ?_
    refine lv_iload_n hx hb d_Mo_lessened_221 rfl (lv_at hl 1 rfl) ?_
    refine lv_icmp_ge (tgt := 351) hx hb d_Mo_lessened_222 (by decide) (fun c73 => ?_) (fun c73 => ?_)
    · rw [if_pos c73] at hf
      exact Kx _ (Option.some.inj hf).symm _ _ _ hP hD hS (show lv_has ls 8 [(2, .int v2), (3, .int v3), (0, .ref h)] from lv_sub hl [1, 2, 3] rfl)
    · rw [if_neg c73] at hf
      refine lv_aload_n hx hb d_Mo_lessened_225 rfl (lv_at hl 3 rfl) ?_
      refine va_get (D := D) (ci := 0) (v := .ref (a 7)) (C := R_Mo) (T := T_Mo) (N := 29) hx hb hts in_Mo hown hK hP 0 rfl rfl 10 (by decide) (hts _ fl_Mo_32) (fun _ h9 => h9) rfl d_Mo_lessened_226 ?_
      refine lv_aload_n hx hb d_Mo_lessened_229 rfl (lv_at hl 3 rfl) ?_
      refine va_get (D := D) (ci := 0) (v := .ref (a 6)) (C := R_Mo) (T := T_Mo) (N := 29) hx hb hts in_Mo hown hK hP 0 rfl rfl 9 (by decide) (hts _ fl_Mo_29) (fun _ h9 => h9) rfl d_Mo_lessened_230 ?_
      refine lv_iload hx hb d_Mo_lessened_233 (lv_at hl 0 rfl) ?_
      obtain ⟨g74, hf⟩ := ogi hf
      refine va_iald hx hb hK hP 7 0 rfl rfl (gin_in g74) d_Mo_lessened_235 ?_
      obtain ⟨g75, hf⟩ := ogi hf
      refine va_iald hx hb hK hP 8 0 rfl rfl (gin_in g75) d_Mo_lessened_236 ?_
      refine lv_istore (lv' := [(5, .int (mLeader (mFresh v4.toNatClampNeg).toNatClampNeg)), (4, .int v4), (2, .int v2), (3, .int v3), (0, .ref h)]) hx hb d_Mo_lessened_237 hl (by decide) rfl (fun ls hl => ?_)
      refine lv_aload_n hx hb d_Mo_lessened_239 rfl (lv_at hl 4 rfl) ?_
      refine va_get (D := D) (ci := 0) (v := .ref (a 2)) (C := R_Mo) (T := T_Mo) (N := 29) hx hb hts in_Mo hown hK hP 0 rfl rfl 5 (by decide) (hts _ fl_Mo_16) (fun _ h9 => h9) rfl d_Mo_lessened_240 ?_
      refine lv_bipush (v := 64) hx hb d_Mo_lessened_243 (by decide) ?_
      refine lv_iload_n hx hb d_Mo_lessened_245 rfl (lv_at hl 3 rfl) ?_
      refine lv_imul hx hb d_Mo_lessened_246 ?_
      refine lv_iload hx hb d_Mo_lessened_247 (lv_at hl 1 rfl) ?_
      refine lv_iadd hx hb d_Mo_lessened_249 ?_
      refine lv_aload_n hx hb d_Mo_lessened_250 rfl (lv_at hl 4 rfl) ?_
      refine va_get (D := D) (ci := 0) (v := .ref (a 10)) (C := R_Mo) (T := T_Mo) (N := 29) hx hb hts in_Mo hown hK hP 0 rfl rfl 13 (by decide) (hts _ fl_Mo_42) (fun _ h9 => h9) rfl d_Mo_lessened_251 ?_
      refine lv_iload hx hb d_Mo_lessened_254 (lv_at hl 0 rfl) ?_
      obtain ⟨g76, hf⟩ := ogi hf
      refine bz_ald hx hb hK hP 11 2 rfl rfl (gin_in g76) d_Mo_lessened_256 ?_
      obtain ⟨g77, hf⟩ := ogi hf
      refine bz_ast hx hb hK hP hD hS 3 2 rfl rfl (gin_in g77) d_Mo_lessened_257 (fun H locs hP hD hS => ?_)
      have hP : va_P D vwCl (moW K h a mErr mLanguages mBounds mSize mGoes (va_up mLast ((64 * v3) + v4).toNatClampNeg (mEnds (mLeader (mFresh v4.toNatClampNeg).toNatClampNeg).toNatClampNeg)) mLeft mNext mGroup mFresh mLeader mNumber mRight mEnds mWay mVariable mFactor mLeast mMost mLength mWord mKept mMany mMore mLeads mMet mTodo mMay mTries) H := hP
      have hD : va_D A (moW K h a mErr mLanguages mBounds mSize mGoes (va_up mLast ((64 * v3) + v4).toNatClampNeg (mEnds (mLeader (mFresh v4.toNatClampNeg).toNatClampNeg).toNatClampNeg)) mLeft mNext mGroup mFresh mLeader mNumber mRight mEnds mWay mVariable mFactor mLeast mMost mLength mWord mKept mMany mMore mLeads mMet mTodo mMay mTries) := hD
      refine lv_iconst (v := 0) hx hb d_Mo_lessened_258 (by decide) ?_
      refine lv_istore (lv' := [(6, .int 0), (5, .int (mLeader (mFresh v4.toNatClampNeg).toNatClampNeg)), (4, .int v4), (2, .int v2), (3, .int v3), (0, .ref h)]) hx hb d_Mo_lessened_259 hl (by decide) rfl (fun ls hl => ?_)
      obtain ⟨u89, eu89, hf⟩ := obd hf
      refine w_Mo_lessened_261 hx hb hml hts hown hK hRf hRl hRc hRs hA  (fun u89q eu ls H locs hP hD hS hl => ?_) _ _ _ _ _ _ eu89 _ _ _ hP hD hS (show lv_has ls 8 [(6, .int 0), (5, .int (mLeader (mFresh v4.toNatClampNeg).toNatClampNeg)), (4, .int v4), (2, .int v2), (3, .int v3), (0, .ref h)] from lv_sub hl [0, 1, 2, 3, 4, 5] rfl)
      subst eu
      refine lv_iinc (v := v4 + 1) (lv' := [(4, .int (v4 + 1)), (2, .int u89.2.1), (3, .int v3), (0, .ref h)]) hx hb d_Mo_lessened_345 hl (k := 0) rfl (by first | rfl | (congr 1)) (by decide) rfl (fun ls hl => ?_)
      refine lv_goto (tgt := 219) hx hb d_Mo_lessened_348 (by decide) ?_
      exact ih _ _ _ _ _ _ hf _ _ _ hP hD hS (show lv_has ls 8 [(4, .int (v4 + 1)), (2, .int u89.2.1), (3, .int v3), (0, .ref h)] from lv_sub hl [0, 1, 2, 3] rfl)
def f_Mo_lessened (n : Nat) (mLanguages : Int32) (mSize : Nat → Int32) (mGoes : Nat → Int32) (mLast : Nat → Bool) (mNext : Nat → Int32) (mGroup : Nat → Int32) (mFresh : Nat → Int32) (mLeader : Nat → Int32) (mNumber : Nat → Int32) (mEnds : Nat → Bool) (mWay : Int32) : Option (Bool × (Nat → Int32) × (Nat → Int32) × (Nat → Bool) × (Nat → Int32) × (Nat → Int32) × (Nat → Int32) × (Nat → Int32)) :=
  (f_Mo_lessened_4 n mEnds mWay n 0 mGroup).bind fun u11 =>
  (f_Mo_lessened_38 n mSize mGoes mLast mNext mNumber mWay n 0 u11.2 mFresh mLeader).bind fun u46 => u46.elim (fun r => some r) fun x46 =>
  (f_Mo_lessened_169 n x46.1 n 0 mNumber).bind fun u51 =>
  ogd (gin 0 800) <|
  ogd (gin (x46.2.1 (0 : Int32).toNatClampNeg) 800) <|
  ogd (gin 0 800) <|
  ogd (gin 0 800) <|
  (f_Mo_lessened_219 n mLanguages mNext x46.2.1 x46.2.2.2 mEnds n 0 (0 + 1) mGoes mLast (upd x46.2.2.1 (0 : Int32).toNatClampNeg (x46.2.1 (0 : Int32).toNatClampNeg)) (upd u51.2 (x46.2.1 (0 : Int32).toNatClampNeg).toNatClampNeg 0)).bind fun u90 =>
  ogd (gin mLanguages 60) <|
  some (true, upd mSize mLanguages.toNatClampNeg u90.2.1, u90.2.2.1, u90.2.2.2.1, x46.2.1, u90.2.2.2.2.1, x46.2.2.2, u90.2.2.2.2.2)
set_option maxHeartbeats 4000000 in
set_option maxRecDepth 100000 in
theorem w_Mo_lessened    (hx : p.tables.exec = Jvm.exec) (hb : c.code = b_Mo_lessened) (hml : c.maxLocals = 8) (hts : ∀ w ∈ gW, w.before args s = true) (hown : s.vm.findClass "RegularSolverModel" = some m.cls) (hK : va_K D vwCl (tG K) s) (hRf : 1 ≤ R.frames) (hRl : 23 ≤ R.locals) (hRc : cells ≤ R.cells) (hRs : slots ≤ R.slots) (hA : ∀ q, H0.size ≤ q → A q) {out : Bool × (Nat → Int32) × (Nat → Int32) × (Nat → Bool) × (Nat → Int32) × (Nat → Int32) × (Nat → Int32) × (Nat → Int32)} (Kr : ∀ (r : Bool × (Nat → Int32) × (Nat → Int32) × (Nat → Bool) × (Nat → Int32) × (Nat → Int32) × (Nat → Int32) × (Nat → Int32)), out = r → ∀ (pc : Nat) (ls : Array Slot) (H : Heap) (locs : List Loc), decode b_Mo_lessened pc = .ok (.ireturn, 1) → va_P D vwCl (moW K h a mErr mLanguages mBounds r.2.1 r.2.2.1 r.2.2.2.1 mLeft mNext r.2.2.2.2.1 r.2.2.2.2.2.1 r.2.2.2.2.2.2.1 r.2.2.2.2.2.2.2 mRight mEnds mWay mVariable mFactor mLeast mMost mLength mWord mKept mMany mMore mLeads mMet mTodo mMay mTries) H → va_D A (moW K h a mErr mLanguages mBounds r.2.1 r.2.2.1 r.2.2.2.1 mLeft mNext r.2.2.2.2.1 r.2.2.2.2.2.1 r.2.2.2.2.2.2.1 r.2.2.2.2.2.2.2 mRight mEnds mWay mVariable mFactor mLeast mMost mLength mWord mKept mMany mMore mLeads mMet mTodo mMay mTries) → va_S A H0 H locs → W p l e R s m args below meth c H locs cells slots Q (F0 m pc ls [.int (bI r.1)])) (hf : f_Mo_lessened n mLanguages mSize mGoes mLast mNext mGroup mFresh mLeader mNumber mEnds mWay = some out) (ls : Array Slot) (hP : va_P D vwCl (moW K h a mErr mLanguages mBounds mSize mGoes mLast mLeft mNext mGroup mFresh mLeader mNumber mRight mEnds mWay mVariable mFactor mLeast mMost mLength mWord mKept mMany mMore mLeads mMet mTodo mMay mTries) H) (hD : va_D A (moW K h a mErr mLanguages mBounds mSize mGoes mLast mLeft mNext mGroup mFresh mLeader mNumber mRight mEnds mWay mVariable mFactor mLeast mMost mLength mWord mKept mMany mMore mLeads mMet mTodo mMay mTries)) (hS : va_S A H0 H locs) (hl : lv_has ls 8 [(0, .ref h)]) : W p l e R s m args below meth c H locs cells slots Q (F0 m 0 ls []) := by
  unfold f_Mo_lessened at hf
  refine lv_iconst (v := 0) hx hb d_Mo_lessened_0 (by decide) ?_
  refine lv_istore_n (lv' := [(1, .int 0), (0, .ref h)]) hx hb d_Mo_lessened_1 rfl hl (by decide) rfl (fun ls hl => ?_)
  refine lv_iconst (v := 0) hx hb d_Mo_lessened_2 (by decide) ?_
  refine lv_istore_n (lv' := [(2, .int 0), (1, .int 0), (0, .ref h)]) hx hb d_Mo_lessened_3 rfl hl (by decide) rfl (fun ls hl => ?_)
  obtain ⟨u11, eu11, hf⟩ := obd hf
  refine w_Mo_lessened_4 hx hb hml hts hown hK hRf hRl hRc hRs hA  (fun u11q eu ls H locs hP hD hS hl => ?_) _ _ _ eu11 _ _ _ hP hD hS (show lv_has ls 8 [(2, .int 0), (1, .int 0), (0, .ref h)] from lv_sub hl [0, 1, 2] rfl)
  subst eu
  obtain ⟨u46, eu46, hf⟩ := obd hf
  refine w_Mo_lessened_38 hx hb hml hts hown hK hRf hRl hRc hRs hA (fun r er pc ls H locs hd hP hD hS => Kr r (by subst er; exact (Option.some.inj hf).symm) pc ls H locs hd hP hD hS) (fun x46 eu ls H locs hP hD hS hl => ?_) _ _ _ _ _ eu46 _ _ _ hP hD hS (show lv_has ls 8 [(1, .int 0), (0, .ref h)] from lv_sub hl [0, 1] rfl)
  subst eu
  replace hf := oel hf
  refine lv_goto (tgt := 159) hx hb d_Mo_lessened_151 (by decide) ?_
  refine lv_iconst (v := 0) hx hb d_Mo_lessened_159 (by decide) ?_
  refine lv_istore_n (lv' := [(2, .int 0), (1, .int x46.1), (0, .ref h)]) hx hb d_Mo_lessened_160 rfl hl (by decide) rfl (fun ls hl => ?_)
  refine lv_aload_n hx hb d_Mo_lessened_161 rfl (lv_at hl 2 rfl) ?_
  refine va_get (D := D) (ci := 0) (v := .int mLanguages) (C := R_Mo) (T := T_Mo) (N := 29) hx hb hts in_Mo hown hK hP 0 rfl rfl 1 (by decide) (hts _ fl_Mo_88) (fun _ h9 => h9) rfl d_Mo_lessened_162 ?_
  refine lv_istore_n (lv' := [(3, .int mLanguages), (2, .int 0), (1, .int x46.1), (0, .ref h)]) hx hb d_Mo_lessened_165 rfl hl (by decide) rfl (fun ls hl => ?_)
  refine lv_iconst (v := 0) hx hb d_Mo_lessened_166 (by decide) ?_
  refine lv_istore (lv' := [(4, .int 0), (3, .int mLanguages), (2, .int 0), (1, .int x46.1), (0, .ref h)]) hx hb d_Mo_lessened_167 hl (by decide) rfl (fun ls hl => ?_)
  obtain ⟨u51, eu51, hf⟩ := obd hf
  refine w_Mo_lessened_169 hx hb hml hts hown hK hRf hRl hRc hRs hA  (fun u51q eu ls H locs hP hD hS hl => ?_) _ _ _ eu51 _ _ _ hP hD hS (show lv_has ls 8 [(4, .int 0), (3, .int mLanguages), (2, .int 0), (1, .int x46.1), (0, .ref h)] from lv_sub hl [0, 1, 2, 3, 4] rfl)
  subst eu
  refine lv_aload_n hx hb d_Mo_lessened_189 rfl (lv_at hl 2 rfl) ?_
  refine va_get (D := D) (ci := 0) (v := .ref (a 8)) (C := R_Mo) (T := T_Mo) (N := 29) hx hb hts in_Mo hown hK hP 0 rfl rfl 11 (by decide) (hts _ fl_Mo_35) (fun _ h9 => h9) rfl d_Mo_lessened_190 ?_
  refine lv_aload_n hx hb d_Mo_lessened_193 rfl (lv_at hl 2 rfl) ?_
  refine va_get (D := D) (ci := 0) (v := .ref (a 5)) (C := R_Mo) (T := T_Mo) (N := 29) hx hb hts in_Mo hown hK hP 0 rfl rfl 8 (by decide) (hts _ fl_Mo_26) (fun _ h9 => h9) rfl d_Mo_lessened_194 ?_
  refine lv_iconst (v := 0) hx hb d_Mo_lessened_197 (by decide) ?_
  obtain ⟨g52, hf⟩ := ogi hf
  refine va_iald hx hb hK hP 6 0 rfl rfl (gin_in g52) d_Mo_lessened_198 ?_
  refine lv_iload_n hx hb d_Mo_lessened_199 rfl (lv_at hl 1 rfl) ?_
  obtain ⟨g53, hf⟩ := ogi hf
  refine va_iast hx hb hK hP hD hS 9 0 rfl rfl (gin_in g53) d_Mo_lessened_200 (fun H locs hP hD hS => ?_)
  have hP : va_P D vwCl (moW K h a mErr mLanguages mBounds mSize mGoes mLast mLeft mNext x46.2.1 x46.2.2.1 x46.2.2.2 (upd u51.2 (x46.2.1 (0 : Int32).toNatClampNeg).toNatClampNeg 0) mRight mEnds mWay mVariable mFactor mLeast mMost mLength mWord mKept mMany mMore mLeads mMet mTodo mMay mTries) H := hP
  have hD : va_D A (moW K h a mErr mLanguages mBounds mSize mGoes mLast mLeft mNext x46.2.1 x46.2.2.1 x46.2.2.2 (upd u51.2 (x46.2.1 (0 : Int32).toNatClampNeg).toNatClampNeg 0) mRight mEnds mWay mVariable mFactor mLeast mMost mLength mWord mKept mMany mMore mLeads mMet mTodo mMay mTries) := hD
  refine lv_aload_n hx hb d_Mo_lessened_201 rfl (lv_at hl 2 rfl) ?_
  refine va_get (D := D) (ci := 0) (v := .ref (a 6)) (C := R_Mo) (T := T_Mo) (N := 29) hx hb hts in_Mo hown hK hP 0 rfl rfl 9 (by decide) (hts _ fl_Mo_29) (fun _ h9 => h9) rfl d_Mo_lessened_202 ?_
  refine lv_iload_n hx hb d_Mo_lessened_205 rfl (lv_at hl 1 rfl) ?_
  refine lv_iinc (v := 0 + 1) (lv' := [(2, .int (0 + 1)), (3, .int mLanguages), (0, .ref h)]) hx hb d_Mo_lessened_206 hl (k := 1) rfl (by first | rfl | (congr 1)) (by decide) rfl (fun ls hl => ?_)
  refine lv_aload_n hx hb d_Mo_lessened_209 rfl (lv_at hl 2 rfl) ?_
  refine va_get (D := D) (ci := 0) (v := .ref (a 5)) (C := R_Mo) (T := T_Mo) (N := 29) hx hb hts in_Mo hown hK hP 0 rfl rfl 8 (by decide) (hts _ fl_Mo_26) (fun _ h9 => h9) rfl d_Mo_lessened_210 ?_
  refine lv_iconst (v := 0) hx hb d_Mo_lessened_213 (by decide) ?_
  obtain ⟨g54, hf⟩ := ogi hf
  refine va_iald hx hb hK hP 6 0 rfl rfl (gin_in g54) d_Mo_lessened_214 ?_
  obtain ⟨g55, hf⟩ := ogi hf
  refine va_iast hx hb hK hP hD hS 7 0 rfl rfl (gin_in g55) d_Mo_lessened_215 (fun H locs hP hD hS => ?_)
  have hP : va_P D vwCl (moW K h a mErr mLanguages mBounds mSize mGoes mLast mLeft mNext x46.2.1 (upd x46.2.2.1 (0 : Int32).toNatClampNeg (x46.2.1 (0 : Int32).toNatClampNeg)) x46.2.2.2 (upd u51.2 (x46.2.1 (0 : Int32).toNatClampNeg).toNatClampNeg 0) mRight mEnds mWay mVariable mFactor mLeast mMost mLength mWord mKept mMany mMore mLeads mMet mTodo mMay mTries) H := hP
  have hD : va_D A (moW K h a mErr mLanguages mBounds mSize mGoes mLast mLeft mNext x46.2.1 (upd x46.2.2.1 (0 : Int32).toNatClampNeg (x46.2.1 (0 : Int32).toNatClampNeg)) x46.2.2.2 (upd u51.2 (x46.2.1 (0 : Int32).toNatClampNeg).toNatClampNeg 0) mRight mEnds mWay mVariable mFactor mLeast mMost mLength mWord mKept mMany mMore mLeads mMet mTodo mMay mTries) := hD
  refine lv_iconst (v := 0) hx hb d_Mo_lessened_216 (by decide) ?_
  refine lv_istore (lv' := [(4, .int 0), (2, .int (0 + 1)), (3, .int mLanguages), (0, .ref h)]) hx hb d_Mo_lessened_217 hl (by decide) rfl (fun ls hl => ?_)
  obtain ⟨u90, eu90, hf⟩ := obd hf
  refine w_Mo_lessened_219 hx hb hml hts hown hK hRf hRl hRc hRs hA  (fun u90q eu ls H locs hP hD hS hl => ?_) _ _ _ _ _ _ _ eu90 _ _ _ hP hD hS (show lv_has ls 8 [(4, .int 0), (2, .int (0 + 1)), (3, .int mLanguages), (0, .ref h)] from lv_sub hl [0, 1, 2, 3] rfl)
  subst eu
  refine lv_aload_n hx hb d_Mo_lessened_351 rfl (lv_at hl 2 rfl) ?_
  refine va_get (D := D) (ci := 0) (v := .ref (a 0)) (C := R_Mo) (T := T_Mo) (N := 29) hx hb hts in_Mo hown hK hP 0 rfl rfl 3 (by decide) (hts _ fl_Mo_9) (fun _ h9 => h9) rfl d_Mo_lessened_352 ?_
  refine lv_iload_n hx hb d_Mo_lessened_355 rfl (lv_at hl 1 rfl) ?_
  refine lv_iload_n hx hb d_Mo_lessened_356 rfl (lv_at hl 0 rfl) ?_
  obtain ⟨g91, hf⟩ := ogi hf
  refine va_iast hx hb hK hP hD hS 1 0 rfl rfl (gin_in g91) d_Mo_lessened_357 (fun H locs hP hD hS => ?_)
  have hP : va_P D vwCl (moW K h a mErr mLanguages mBounds (upd mSize mLanguages.toNatClampNeg u90.2.1) u90.2.2.1 u90.2.2.2.1 mLeft mNext x46.2.1 u90.2.2.2.2.1 x46.2.2.2 u90.2.2.2.2.2 mRight mEnds mWay mVariable mFactor mLeast mMost mLength mWord mKept mMany mMore mLeads mMet mTodo mMay mTries) H := hP
  have hD : va_D A (moW K h a mErr mLanguages mBounds (upd mSize mLanguages.toNatClampNeg u90.2.1) u90.2.2.1 u90.2.2.2.1 mLeft mNext x46.2.1 u90.2.2.2.2.1 x46.2.2.2 u90.2.2.2.2.2 mRight mEnds mWay mVariable mFactor mLeast mMost mLength mWord mKept mMany mMore mLeads mMet mTodo mMay mTries) := hD
  refine lv_iconst (v := 1) hx hb d_Mo_lessened_358 (by decide) ?_
  exact Kr _ (Option.some.inj hf).symm _ _ _ _ d_Mo_lessened_359 hP hD hS
set_option maxHeartbeats 4000000 in
set_option maxRecDepth 100000 in
theorem c_Mo_lessened (l : Launch)    {r : Bool × (Nat → Int32) × (Nat → Int32) × (Nat → Bool) × (Nat → Int32) × (Nat → Int32) × (Nat → Int32) × (Nat → Int32)} (sz : Nat) (hf : f_Mo_lessened n mLanguages mSize mGoes mLast mNext mGroup mFresh mLeader mNumber mEnds mWay = some r) : Met l y_Mo_lessened w0_Mo_lessened ({ frames := 1, cells := 0, slots := 0, locals := 23 }) (wPre D K [.ref h] (moW K h a mErr mLanguages mBounds mSize mGoes mLast mLeft mNext mGroup mFresh mLeader mNumber mRight mEnds mWay mVariable mFactor mLeast mMost mLength mWord mKept mMany mMore mLeads mMet mTodo mMay mTries) sz) (wPost D K (some (.int (bI r.1))) (moW K h a mErr mLanguages mBounds r.2.1 r.2.2.1 r.2.2.2.1 mLeft mNext r.2.2.2.2.1 r.2.2.2.2.2.1 r.2.2.2.2.2.2.1 r.2.2.2.2.2.2.2 mRight mEnds mWay mVariable mFactor mLeast mMost mLength mWord mKept mMany mMore mLeads mMet mTodo mMay mTries) (va_A (moW K h a mErr mLanguages mBounds mSize mGoes mLast mLeft mNext mGroup mFresh mLeader mNumber mRight mEnds mWay mVariable mFactor mLeast mMost mLength mWord mKept mMany mMore mLeads mMet mTodo mMay mTries) sz)) 0 0 (va_A (moW K h a mErr mLanguages mBounds mSize mGoes mLast mLeft mNext mGroup mFresh mLeader mNumber mRight mEnds mWay mVariable mFactor mLeast mMost mLength mWord mKept mMany mMore mLeads mMet mTodo mMay mTries) sz) := by
  refine Met.ofW (cc := b_Mo_lessened) (maxL := 8) (ret := (some .boolean)) (by decide) rfl ?_
  intro p e s m args below meth c s₁ B hml hv
  obtain ⟨rfl, hsz, hP, hK, hD0⟩ := hv
  subst hsz
  have hl := lv_entry [.ref h] (n := 8) (Nat.le_of_ble_eq_true rfl)
  rw [lg_entry_eq]
  generalize (lg_sl [.ref h] ++ List.replicate (8 - (lg_sl [.ref h]).length) Slot.unset).toArray = ls at hl ⊢
  refine w_Mo_lessened (A := va_A (moW K h a mErr mLanguages mBounds mSize mGoes mLast mLeft mNext mGroup mFresh mLeader mNumber mRight mEnds mWay mVariable mFactor mLeast mMost mLength mWord mKept mMany mMore mLeads mMet mTodo mMay mTries) s.heap.size) (H0 := s.heap) B.exec B.bytes hml (fun w hw => atoms_spec (ws := w0_Mo_lessened) B.pre w (List.mem_cons_of_mem _ hw)) (findClass_of_methodNamed B.named) hK (Nat.le_refl _) (Nat.le_refl _) (Nat.zero_le _) (Nat.zero_le _) (fun q h => Or.inr h) (fun r er pc ls H locs hd hP hD hS => ?_) hf ls hP (hD0.self (sz := s.heap.size)) va_S.rf hl
  subst er
  exact W.zret B.exec B.bytes B.returns (bI_nar _) (fun t ht hW => ⟨⟨rfl, by rw [ht]; exact hP, va_K.moved hW.alike hK, hD⟩, hS.F ht⟩) hS.2.2 hd (hlocks := B.notSynchronized)
end
