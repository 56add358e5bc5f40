/-! by program out of the class files: each method as a function over the store, and its contract by a walk -/
theorem dX9_laysLeast_0 : decode cX9_laysLeast 0 = .ok (.iconst 0, 1) := by decide +kernel
theorem dX9_laysLeast_1 : decode cX9_laysLeast 1 = .ok (.istore_n 2, 1) := by decide +kernel
theorem dX9_laysLeast_2 : decode cX9_laysLeast 2 = .ok (.iconst 0, 1) := by decide +kernel
theorem dX9_laysLeast_3 : decode cX9_laysLeast 3 = .ok (.istore_n 3, 1) := by decide +kernel
theorem dX9_laysLeast_4 : decode cX9_laysLeast 4 = .ok (.iconst 0, 1) := by decide +kernel
theorem dX9_laysLeast_5 : decode cX9_laysLeast 5 = .ok (.istore 4, 2) := by decide +kernel
theorem dX9_laysLeast_7 : decode cX9_laysLeast 7 = .ok (.aload_n 0, 1) := by decide +kernel
theorem dX9_laysLeast_8 : decode cX9_laysLeast 8 = .ok (.iload_n 1, 1) := by decide +kernel
theorem dX9_laysLeast_9 : decode cX9_laysLeast 9 = .ok (.iconst 0, 1) := by decide +kernel
theorem dX9_laysLeast_10 : decode cX9_laysLeast 10 = .ok (.invokevirtual 76, 3) := by decide +kernel
theorem dX9_laysLeast_13 : decode cX9_laysLeast 13 = .ok (.iconst 2, 1) := by decide +kernel
theorem dX9_laysLeast_14 : decode cX9_laysLeast 14 = .ok (.if_icmp .ne 96, 3) := by decide +kernel
theorem dX9_laysLeast_17 : decode cX9_laysLeast 17 = .ok (.iconst 0, 1) := by decide +kernel
theorem dX9_laysLeast_18 : decode cX9_laysLeast 18 = .ok (.istore 5, 2) := by decide +kernel
theorem dX9_laysLeast_20 : decode cX9_laysLeast 20 = .ok (.iload 5, 2) := by decide +kernel
theorem dX9_laysLeast_22 : decode cX9_laysLeast 22 = .ok (.bipush 12, 2) := by decide +kernel
theorem dX9_laysLeast_24 : decode cX9_laysLeast 24 = .ok (.if_icmp .ge 83, 3) := by decide +kernel
theorem dX9_laysLeast_27 : decode cX9_laysLeast 27 = .ok (.aload_n 0, 1) := by decide +kernel
theorem dX9_laysLeast_28 : decode cX9_laysLeast 28 = .ok (.iload 5, 2) := by decide +kernel
theorem dX9_laysLeast_30 : decode cX9_laysLeast 30 = .ok (.iconst 3, 1) := by decide +kernel
theorem dX9_laysLeast_31 : decode cX9_laysLeast 31 = .ok (.invokevirtual 65, 3) := by decide +kernel
theorem dX9_laysLeast_34 : decode cX9_laysLeast 34 = .ok (.iload_n 1, 1) := by decide +kernel
theorem dX9_laysLeast_35 : decode cX9_laysLeast 35 = .ok (.if_icmp .ne 66, 3) := by decide +kernel
theorem dX9_laysLeast_38 : decode cX9_laysLeast 38 = .ok (.aload_n 0, 1) := by decide +kernel
theorem dX9_laysLeast_39 : decode cX9_laysLeast 39 = .ok (.iload 5, 2) := by decide +kernel
theorem dX9_laysLeast_41 : decode cX9_laysLeast 41 = .ok (.iconst 5, 1) := by decide +kernel
theorem dX9_laysLeast_42 : decode cX9_laysLeast 42 = .ok (.invokevirtual 65, 3) := by decide +kernel
theorem dX9_laysLeast_45 : decode cX9_laysLeast 45 = .ok (.ifCond .ne 56, 3) := by decide +kernel
theorem dX9_laysLeast_48 : decode cX9_laysLeast 48 = .ok (.iconst 1, 1) := by decide +kernel
theorem dX9_laysLeast_49 : decode cX9_laysLeast 49 = .ok (.istore 4, 2) := by decide +kernel
theorem dX9_laysLeast_51 : decode cX9_laysLeast 51 = .ok (.aload_n 0, 1) := by decide +kernel
theorem dX9_laysLeast_52 : decode cX9_laysLeast 52 = .ok (.iload 5, 2) := by decide +kernel
theorem dX9_laysLeast_54 : decode cX9_laysLeast 54 = .ok (.iconst 1, 1) := by decide +kernel
theorem dX9_laysLeast_55 : decode cX9_laysLeast 55 = .ok (.invokevirtual 65, 3) := by decide +kernel
theorem dX9_laysLeast_58 : decode cX9_laysLeast 58 = .ok (.iload_n 2, 1) := by decide +kernel
theorem dX9_laysLeast_59 : decode cX9_laysLeast 59 = .ok (.if_icmp .le 13, 3) := by decide +kernel
theorem dX9_laysLeast_62 : decode cX9_laysLeast 62 = .ok (.aload_n 0, 1) := by decide +kernel
theorem dX9_laysLeast_63 : decode cX9_laysLeast 63 = .ok (.iload 5, 2) := by decide +kernel
theorem dX9_laysLeast_65 : decode cX9_laysLeast 65 = .ok (.iconst 1, 1) := by decide +kernel
theorem dX9_laysLeast_66 : decode cX9_laysLeast 66 = .ok (.invokevirtual 65, 3) := by decide +kernel
theorem dX9_laysLeast_69 : decode cX9_laysLeast 69 = .ok (.goto 4, 3) := by decide +kernel
theorem dX9_laysLeast_72 : decode cX9_laysLeast 72 = .ok (.iload_n 2, 1) := by decide +kernel
theorem dX9_laysLeast_73 : decode cX9_laysLeast 73 = .ok (.istore_n 2, 1) := by decide +kernel
theorem dX9_laysLeast_74 : decode cX9_laysLeast 74 = .ok (.aload_n 0, 1) := by decide +kernel
theorem dX9_laysLeast_75 : decode cX9_laysLeast 75 = .ok (.iload 5, 2) := by decide +kernel
theorem dX9_laysLeast_77 : decode cX9_laysLeast 77 = .ok (.iconst 2, 1) := by decide +kernel
theorem dX9_laysLeast_78 : decode cX9_laysLeast 78 = .ok (.invokevirtual 65, 3) := by decide +kernel
theorem dX9_laysLeast_81 : decode cX9_laysLeast 81 = .ok (.iconst 1, 1) := by decide +kernel
theorem dX9_laysLeast_82 : decode cX9_laysLeast 82 = .ok (.iadd, 1) := by decide +kernel
theorem dX9_laysLeast_83 : decode cX9_laysLeast 83 = .ok (.iload_n 3, 1) := by decide +kernel
theorem dX9_laysLeast_84 : decode cX9_laysLeast 84 = .ok (.if_icmp .le 15, 3) := by decide +kernel
theorem dX9_laysLeast_87 : decode cX9_laysLeast 87 = .ok (.aload_n 0, 1) := by decide +kernel
theorem dX9_laysLeast_88 : decode cX9_laysLeast 88 = .ok (.iload 5, 2) := by decide +kernel
theorem dX9_laysLeast_90 : decode cX9_laysLeast 90 = .ok (.iconst 2, 1) := by decide +kernel
theorem dX9_laysLeast_91 : decode cX9_laysLeast 91 = .ok (.invokevirtual 65, 3) := by decide +kernel
theorem dX9_laysLeast_94 : decode cX9_laysLeast 94 = .ok (.iconst 1, 1) := by decide +kernel
theorem dX9_laysLeast_95 : decode cX9_laysLeast 95 = .ok (.iadd, 1) := by decide +kernel
theorem dX9_laysLeast_96 : decode cX9_laysLeast 96 = .ok (.goto 4, 3) := by decide +kernel
theorem dX9_laysLeast_99 : decode cX9_laysLeast 99 = .ok (.iload_n 3, 1) := by decide +kernel
theorem dX9_laysLeast_100 : decode cX9_laysLeast 100 = .ok (.istore_n 3, 1) := by decide +kernel
theorem dX9_laysLeast_101 : decode cX9_laysLeast 101 = .ok (.iinc 5 1, 3) := by decide +kernel
theorem dX9_laysLeast_104 : decode cX9_laysLeast 104 = .ok (.goto (-84), 3) := by decide +kernel
theorem dX9_laysLeast_107 : decode cX9_laysLeast 107 = .ok (.goto 175, 3) := by decide +kernel
theorem dX9_laysLeast_110 : decode cX9_laysLeast 110 = .ok (.iconst 0, 1) := by decide +kernel
theorem dX9_laysLeast_111 : decode cX9_laysLeast 111 = .ok (.istore 5, 2) := by decide +kernel
theorem dX9_laysLeast_113 : decode cX9_laysLeast 113 = .ok (.iload 5, 2) := by decide +kernel
theorem dX9_laysLeast_115 : decode cX9_laysLeast 115 = .ok (.bipush 24, 2) := by decide +kernel
theorem dX9_laysLeast_117 : decode cX9_laysLeast 117 = .ok (.if_icmp .ge 165, 3) := by decide +kernel
theorem dX9_laysLeast_120 : decode cX9_laysLeast 120 = .ok (.aload_n 0, 1) := by decide +kernel
theorem dX9_laysLeast_121 : decode cX9_laysLeast 121 = .ok (.iload 5, 2) := by decide +kernel
theorem dX9_laysLeast_123 : decode cX9_laysLeast 123 = .ok (.iload_n 1, 1) := by decide +kernel
theorem dX9_laysLeast_124 : decode cX9_laysLeast 124 = .ok (.invokevirtual 83, 3) := by decide +kernel
theorem dX9_laysLeast_127 : decode cX9_laysLeast 127 = .ok (.ifCond .eq 149, 3) := by decide +kernel
theorem dX9_laysLeast_130 : decode cX9_laysLeast 130 = .ok (.aload_n 0, 1) := by decide +kernel
theorem dX9_laysLeast_131 : decode cX9_laysLeast 131 = .ok (.getfield 22, 3) := by decide +kernel
theorem dX9_laysLeast_134 : decode cX9_laysLeast 134 = .ok (.iload 5, 2) := by decide +kernel
theorem dX9_laysLeast_136 : decode cX9_laysLeast 136 = .ok (.baload, 1) := by decide +kernel
theorem dX9_laysLeast_137 : decode cX9_laysLeast 137 = .ok (.ifCond .eq 139, 3) := by decide +kernel
theorem dX9_laysLeast_140 : decode cX9_laysLeast 140 = .ok (.aload_n 0, 1) := by decide +kernel
theorem dX9_laysLeast_141 : decode cX9_laysLeast 141 = .ok (.iload_n 1, 1) := by decide +kernel
theorem dX9_laysLeast_142 : decode cX9_laysLeast 142 = .ok (.iconst 2, 1) := by decide +kernel
theorem dX9_laysLeast_143 : decode cX9_laysLeast 143 = .ok (.invokevirtual 76, 3) := by decide +kernel
theorem dX9_laysLeast_146 : decode cX9_laysLeast 146 = .ok (.iconst 1, 1) := by decide +kernel
theorem dX9_laysLeast_147 : decode cX9_laysLeast 147 = .ok (.if_icmp .ne 7, 3) := by decide +kernel
theorem dX9_laysLeast_150 : decode cX9_laysLeast 150 = .ok (.iconst 1, 1) := by decide +kernel
theorem dX9_laysLeast_151 : decode cX9_laysLeast 151 = .ok (.goto 4, 3) := by decide +kernel
theorem dX9_laysLeast_154 : decode cX9_laysLeast 154 = .ok (.iconst 0, 1) := by decide +kernel
theorem dX9_laysLeast_155 : decode cX9_laysLeast 155 = .ok (.istore 6, 2) := by decide +kernel
theorem dX9_laysLeast_157 : decode cX9_laysLeast 157 = .ok (.iload 4, 2) := by decide +kernel
theorem dX9_laysLeast_159 : decode cX9_laysLeast 159 = .ok (.ifCond .eq 7, 3) := by decide +kernel
theorem dX9_laysLeast_162 : decode cX9_laysLeast 162 = .ok (.iconst 1, 1) := by decide +kernel
theorem dX9_laysLeast_163 : decode cX9_laysLeast 163 = .ok (.goto 4, 3) := by decide +kernel
theorem dX9_laysLeast_166 : decode cX9_laysLeast 166 = .ok (.iconst 0, 1) := by decide +kernel
theorem dX9_laysLeast_167 : decode cX9_laysLeast 167 = .ok (.istore 7, 2) := by decide +kernel
theorem dX9_laysLeast_169 : decode cX9_laysLeast 169 = .ok (.iload 6, 2) := by decide +kernel
theorem dX9_laysLeast_171 : decode cX9_laysLeast 171 = .ok (.ifCond .eq 32, 3) := by decide +kernel
theorem dX9_laysLeast_174 : decode cX9_laysLeast 174 = .ok (.aload_n 0, 1) := by decide +kernel
theorem dX9_laysLeast_175 : decode cX9_laysLeast 175 = .ok (.getfield 26, 3) := by decide +kernel
theorem dX9_laysLeast_178 : decode cX9_laysLeast 178 = .ok (.iconst 2, 1) := by decide +kernel
theorem dX9_laysLeast_179 : decode cX9_laysLeast 179 = .ok (.iload 5, 2) := by decide +kernel
theorem dX9_laysLeast_181 : decode cX9_laysLeast 181 = .ok (.imul, 1) := by decide +kernel
theorem dX9_laysLeast_182 : decode cX9_laysLeast 182 = .ok (.iaload, 1) := by decide +kernel
theorem dX9_laysLeast_183 : decode cX9_laysLeast 183 = .ok (.iload_n 2, 1) := by decide +kernel
theorem dX9_laysLeast_184 : decode cX9_laysLeast 184 = .ok (.if_icmp .le 15, 3) := by decide +kernel
theorem dX9_laysLeast_187 : decode cX9_laysLeast 187 = .ok (.aload_n 0, 1) := by decide +kernel
theorem dX9_laysLeast_188 : decode cX9_laysLeast 188 = .ok (.getfield 26, 3) := by decide +kernel
theorem dX9_laysLeast_191 : decode cX9_laysLeast 191 = .ok (.iconst 2, 1) := by decide +kernel
theorem dX9_laysLeast_192 : decode cX9_laysLeast 192 = .ok (.iload 5, 2) := by decide +kernel
theorem dX9_laysLeast_194 : decode cX9_laysLeast 194 = .ok (.imul, 1) := by decide +kernel
theorem dX9_laysLeast_195 : decode cX9_laysLeast 195 = .ok (.iaload, 1) := by decide +kernel
theorem dX9_laysLeast_196 : decode cX9_laysLeast 196 = .ok (.goto 21, 3) := by decide +kernel
theorem dX9_laysLeast_199 : decode cX9_laysLeast 199 = .ok (.iload_n 2, 1) := by decide +kernel
theorem dX9_laysLeast_200 : decode cX9_laysLeast 200 = .ok (.goto 17, 3) := by decide +kernel
theorem dX9_laysLeast_203 : decode cX9_laysLeast 203 = .ok (.iload_n 2, 1) := by decide +kernel
theorem dX9_laysLeast_204 : decode cX9_laysLeast 204 = .ok (.iload 7, 2) := by decide +kernel
theorem dX9_laysLeast_206 : decode cX9_laysLeast 206 = .ok (.iadd, 1) := by decide +kernel
theorem dX9_laysLeast_207 : decode cX9_laysLeast 207 = .ok (.aload_n 0, 1) := by decide +kernel
theorem dX9_laysLeast_208 : decode cX9_laysLeast 208 = .ok (.getfield 26, 3) := by decide +kernel
theorem dX9_laysLeast_211 : decode cX9_laysLeast 211 = .ok (.iconst 2, 1) := by decide +kernel
theorem dX9_laysLeast_212 : decode cX9_laysLeast 212 = .ok (.iload 5, 2) := by decide +kernel
theorem dX9_laysLeast_214 : decode cX9_laysLeast 214 = .ok (.imul, 1) := by decide +kernel
theorem dX9_laysLeast_215 : decode cX9_laysLeast 215 = .ok (.iaload, 1) := by decide +kernel
theorem dX9_laysLeast_216 : decode cX9_laysLeast 216 = .ok (.iadd, 1) := by decide +kernel
theorem dX9_laysLeast_217 : decode cX9_laysLeast 217 = .ok (.istore_n 2, 1) := by decide +kernel
theorem dX9_laysLeast_218 : decode cX9_laysLeast 218 = .ok (.iload 6, 2) := by decide +kernel
theorem dX9_laysLeast_220 : decode cX9_laysLeast 220 = .ok (.ifCond .ne 36, 3) := by decide +kernel
theorem dX9_laysLeast_223 : decode cX9_laysLeast 223 = .ok (.aload_n 0, 1) := by decide +kernel
theorem dX9_laysLeast_224 : decode cX9_laysLeast 224 = .ok (.getfield 26, 3) := by decide +kernel
theorem dX9_laysLeast_227 : decode cX9_laysLeast 227 = .ok (.iconst 2, 1) := by decide +kernel
theorem dX9_laysLeast_228 : decode cX9_laysLeast 228 = .ok (.iload 5, 2) := by decide +kernel
theorem dX9_laysLeast_230 : decode cX9_laysLeast 230 = .ok (.imul, 1) := by decide +kernel
theorem dX9_laysLeast_231 : decode cX9_laysLeast 231 = .ok (.iconst 1, 1) := by decide +kernel
theorem dX9_laysLeast_232 : decode cX9_laysLeast 232 = .ok (.iadd, 1) := by decide +kernel
theorem dX9_laysLeast_233 : decode cX9_laysLeast 233 = .ok (.iaload, 1) := by decide +kernel
theorem dX9_laysLeast_234 : decode cX9_laysLeast 234 = .ok (.iload_n 3, 1) := by decide +kernel
theorem dX9_laysLeast_235 : decode cX9_laysLeast 235 = .ok (.if_icmp .le 17, 3) := by decide +kernel
theorem dX9_laysLeast_238 : decode cX9_laysLeast 238 = .ok (.aload_n 0, 1) := by decide +kernel
theorem dX9_laysLeast_239 : decode cX9_laysLeast 239 = .ok (.getfield 26, 3) := by decide +kernel
theorem dX9_laysLeast_242 : decode cX9_laysLeast 242 = .ok (.iconst 2, 1) := by decide +kernel
theorem dX9_laysLeast_243 : decode cX9_laysLeast 243 = .ok (.iload 5, 2) := by decide +kernel
theorem dX9_laysLeast_245 : decode cX9_laysLeast 245 = .ok (.imul, 1) := by decide +kernel
theorem dX9_laysLeast_246 : decode cX9_laysLeast 246 = .ok (.iconst 1, 1) := by decide +kernel
theorem dX9_laysLeast_247 : decode cX9_laysLeast 247 = .ok (.iadd, 1) := by decide +kernel
theorem dX9_laysLeast_248 : decode cX9_laysLeast 248 = .ok (.iaload, 1) := by decide +kernel
theorem dX9_laysLeast_249 : decode cX9_laysLeast 249 = .ok (.goto 23, 3) := by decide +kernel
theorem dX9_laysLeast_252 : decode cX9_laysLeast 252 = .ok (.iload_n 3, 1) := by decide +kernel
theorem dX9_laysLeast_253 : decode cX9_laysLeast 253 = .ok (.goto 19, 3) := by decide +kernel
theorem dX9_laysLeast_256 : decode cX9_laysLeast 256 = .ok (.iload_n 3, 1) := by decide +kernel
theorem dX9_laysLeast_257 : decode cX9_laysLeast 257 = .ok (.iload 7, 2) := by decide +kernel
theorem dX9_laysLeast_259 : decode cX9_laysLeast 259 = .ok (.iadd, 1) := by decide +kernel
theorem dX9_laysLeast_260 : decode cX9_laysLeast 260 = .ok (.aload_n 0, 1) := by decide +kernel
theorem dX9_laysLeast_261 : decode cX9_laysLeast 261 = .ok (.getfield 26, 3) := by decide +kernel
theorem dX9_laysLeast_264 : decode cX9_laysLeast 264 = .ok (.iconst 2, 1) := by decide +kernel
theorem dX9_laysLeast_265 : decode cX9_laysLeast 265 = .ok (.iload 5, 2) := by decide +kernel
theorem dX9_laysLeast_267 : decode cX9_laysLeast 267 = .ok (.imul, 1) := by decide +kernel
theorem dX9_laysLeast_268 : decode cX9_laysLeast 268 = .ok (.iconst 1, 1) := by decide +kernel
theorem dX9_laysLeast_269 : decode cX9_laysLeast 269 = .ok (.iadd, 1) := by decide +kernel
theorem dX9_laysLeast_270 : decode cX9_laysLeast 270 = .ok (.iaload, 1) := by decide +kernel
theorem dX9_laysLeast_271 : decode cX9_laysLeast 271 = .ok (.iadd, 1) := by decide +kernel
theorem dX9_laysLeast_272 : decode cX9_laysLeast 272 = .ok (.istore_n 3, 1) := by decide +kernel
theorem dX9_laysLeast_273 : decode cX9_laysLeast 273 = .ok (.iconst 1, 1) := by decide +kernel
theorem dX9_laysLeast_274 : decode cX9_laysLeast 274 = .ok (.istore 4, 2) := by decide +kernel
theorem dX9_laysLeast_276 : decode cX9_laysLeast 276 = .ok (.iinc 5 1, 3) := by decide +kernel
theorem dX9_laysLeast_279 : decode cX9_laysLeast 279 = .ok (.goto (-166), 3) := by decide +kernel
theorem dX9_laysLeast_282 : decode cX9_laysLeast 282 = .ok (.aload_n 0, 1) := by decide +kernel
theorem dX9_laysLeast_283 : decode cX9_laysLeast 283 = .ok (.getfield 22, 3) := by decide +kernel
theorem dX9_laysLeast_286 : decode cX9_laysLeast 286 = .ok (.iload_n 1, 1) := by decide +kernel
theorem dX9_laysLeast_287 : decode cX9_laysLeast 287 = .ok (.iload 4, 2) := by decide +kernel
theorem dX9_laysLeast_289 : decode cX9_laysLeast 289 = .ok (.bastore, 1) := by decide +kernel
theorem dX9_laysLeast_290 : decode cX9_laysLeast 290 = .ok (.aload_n 0, 1) := by decide +kernel
theorem dX9_laysLeast_291 : decode cX9_laysLeast 291 = .ok (.getfield 26, 3) := by decide +kernel
theorem dX9_laysLeast_294 : decode cX9_laysLeast 294 = .ok (.iconst 2, 1) := by decide +kernel
theorem dX9_laysLeast_295 : decode cX9_laysLeast 295 = .ok (.iload_n 1, 1) := by decide +kernel
theorem dX9_laysLeast_296 : decode cX9_laysLeast 296 = .ok (.imul, 1) := by decide +kernel
theorem dX9_laysLeast_297 : decode cX9_laysLeast 297 = .ok (.iload_n 2, 1) := by decide +kernel
theorem dX9_laysLeast_298 : decode cX9_laysLeast 298 = .ok (.iastore, 1) := by decide +kernel
theorem dX9_laysLeast_299 : decode cX9_laysLeast 299 = .ok (.aload_n 0, 1) := by decide +kernel
theorem dX9_laysLeast_300 : decode cX9_laysLeast 300 = .ok (.getfield 26, 3) := by decide +kernel
theorem dX9_laysLeast_303 : decode cX9_laysLeast 303 = .ok (.iconst 2, 1) := by decide +kernel
theorem dX9_laysLeast_304 : decode cX9_laysLeast 304 = .ok (.iload_n 1, 1) := by decide +kernel
theorem dX9_laysLeast_305 : decode cX9_laysLeast 305 = .ok (.imul, 1) := by decide +kernel
theorem dX9_laysLeast_306 : decode cX9_laysLeast 306 = .ok (.iconst 1, 1) := by decide +kernel
theorem dX9_laysLeast_307 : decode cX9_laysLeast 307 = .ok (.iadd, 1) := by decide +kernel
theorem dX9_laysLeast_308 : decode cX9_laysLeast 308 = .ok (.iload_n 3, 1) := by decide +kernel
theorem dX9_laysLeast_309 : decode cX9_laysLeast 309 = .ok (.iastore, 1) := by decide +kernel
theorem dX9_laysLeast_310 : decode cX9_laysLeast 310 = .ok (.return_, 1) := by decide +kernel
abbrev rmX9_laysLeast : Room := { frames := 2, cells := 0, slots := 0, locals := 44 }
theorem hdX9_laysLeast : yX9_laysLeast.cls ≠ "java/lang/invoke/MethodHandle" ∧ yX9_laysLeast.cls ≠ "java/lang/invoke/VarHandle" ∧ (parseMethodDescriptor yX9_laysLeast.desc).map (fun d => d.parameters.length) = some 1 := by decide +kernel
def fX9_laysLeast_282 (b : Nat) (σ : Sg) (l1 : Int32) (l2 : Int32) (l3 : Int32) (l4 : Int32) : Option Sg :=
  if ck l1 24 then
    nm (su σ (b + 5) l1.toNatClampNeg (vp_nar .boolean l4)) fun σ4 =>
    if ck (2 * l1) 48 then
      nm (su σ4 (b + 6) (2 * l1).toNatClampNeg l2) fun σ5 =>
      if ck ((2 * l1) + 1) 48 then
        nm (su σ5 (b + 6) ((2 * l1) + 1).toNatClampNeg l3) fun σ6 =>
        some σ6
      else none
    else none
  else none
theorem bX9_laysLeast_282 {X : Xc} {K : Kc} (C : MC X K cX9_laysLeast 8 RX9 rmX9_laysLeast) (hr : K.meth.sig.returnType = none) (b : Nat) (hb : moOK b) (σ : Sg) (l1 : Int32) (l2 : Int32) (l3 : Int32) (l4 : Int32) : GO X K 8 (fun r => MQv X K r) (fX9_laysLeast_282 b σ l1 l2 l3 l4) σ 0 0 282 [some (.ref (X.ad b)), some (.int (l1)), some (.int (l2)), some (.int (l3)), some (.int (l4)), none, none, none] [] := by
  unfold fX9_laysLeast_282
  refine g_aload_n (pc := 282) (i := 0) C dX9_laysLeast_282 rfl rfl ?_
  refine g_getr (pc := 283) (ci := 9) (N := 27) (T := TX9) (j := 7) (Cn := RX9) (b + 5) C rfl inlX9 (Nat.le_of_ble_eq_true rfl) q_6_7 (blk hb 0 rfl) rfl dX9_laysLeast_283 ?_
  refine g_iload_n (pc := 286) (i := 1) C dX9_laysLeast_286 rfl rfl ?_
  refine g_iload (pc := 287) C dX9_laysLeast_287 rfl ?_
  refine g_bastore (pc := 289) C (blk hb 5 rfl) dX9_laysLeast_289 ?_
  refine g_nms (fun σ4 => ?_)
  refine g_aload_n (pc := 290) (i := 0) C dX9_laysLeast_290 rfl rfl ?_
  refine g_getr (pc := 291) (ci := 9) (N := 27) (T := TX9) (j := 8) (Cn := RX9) (b + 6) C rfl inlX9 (Nat.le_of_ble_eq_true rfl) q_6_8 (blk hb 0 rfl) rfl dX9_laysLeast_291 ?_
  refine g_iconst (pc := 294) (v := 2) C dX9_laysLeast_294 (by decide) ?_
  refine g_iload_n (pc := 295) (i := 1) C dX9_laysLeast_295 rfl rfl ?_
  refine g_imul (pc := 296) C dX9_laysLeast_296 ?_
  refine g_iload_n (pc := 297) (i := 2) C dX9_laysLeast_297 rfl rfl ?_
  refine g_iastore (pc := 298) C (blk hb 6 rfl) dX9_laysLeast_298 ?_
  refine g_nms (fun σ5 => ?_)
  refine g_aload_n (pc := 299) (i := 0) C dX9_laysLeast_299 rfl rfl ?_
  refine g_getr (pc := 300) (ci := 9) (N := 27) (T := TX9) (j := 8) (Cn := RX9) (b + 6) C rfl inlX9 (Nat.le_of_ble_eq_true rfl) q_6_8 (blk hb 0 rfl) rfl dX9_laysLeast_300 ?_
  refine g_iconst (pc := 303) (v := 2) C dX9_laysLeast_303 (by decide) ?_
  refine g_iload_n (pc := 304) (i := 1) C dX9_laysLeast_304 rfl rfl ?_
  refine g_imul (pc := 305) C dX9_laysLeast_305 ?_
  refine g_iconst (pc := 306) (v := 1) C dX9_laysLeast_306 (by decide) ?_
  refine g_iadd (pc := 307) C dX9_laysLeast_307 ?_
  refine g_iload_n (pc := 308) (i := 3) C dX9_laysLeast_308 rfl rfl ?_
  refine g_iastore (pc := 309) C (blk hb 6 rfl) dX9_laysLeast_309 ?_
  refine g_nms (fun σ6 => ?_)
  exact g_vret (pc := 310) C hr dX9_laysLeast_310 rfl
def fX9_laysLeast_276 (b : Nat) (k113 : Sg → Int32 → Int32 → Int32 → Int32 → Int32 → Option Sg) (σ : Sg) (l1 : Int32) (l2 : Int32) (l3 : Int32) (l4 : Int32) (l5 : Int32) : Option Sg :=
  (k113 σ l1 l2 l3 l4 (l5 + 1))
theorem bX9_laysLeast_276 {X : Xc} {K : Kc} (C : MC X K cX9_laysLeast 8 RX9 rmX9_laysLeast) (hr : K.meth.sig.returnType = none) (b : Nat) (hb : moOK b){k113 : Sg → Int32 → Int32 → Int32 → Int32 → Int32 → Option Sg} (hk113 : ∀ (σ : Sg) (l1 : Int32) (l2 : Int32) (l3 : Int32) (l4 : Int32) (l5 : Int32), GO X K 8 (fun r => MQv X K r) (k113 σ l1 l2 l3 l4 l5) σ 0 0 113 [some (.ref (X.ad b)), some (.int (l1)), some (.int (l2)), some (.int (l3)), some (.int (l4)), some (.int (l5)), none, none] []) (σ : Sg) (l1 : Int32) (l2 : Int32) (l3 : Int32) (l4 : Int32) (l5 : Int32) : GO X K 8 (fun r => MQv X K r) (fX9_laysLeast_276 b k113 σ l1 l2 l3 l4 l5) σ 0 0 276 [some (.ref (X.ad b)), some (.int (l1)), some (.int (l2)), some (.int (l3)), some (.int (l4)), some (.int (l5)), none, none] [] := by
  unfold fX9_laysLeast_276
  refine g_iinc (pc := 276) (v := l5 + 1) C dX9_laysLeast_276 rfl (rfl) (Nat.le_of_ble_eq_true rfl) rfl ?_
  refine g_goto (pc := 279) (tgt := 113) C dX9_laysLeast_279 rfl ?_
  refine g_keep [true, true, true, true, true, true, false, false] ?_
  exact hk113 σ l1 l2 l3 l4 (l5 + 1)
def fX9_laysLeast_272 (b : Nat) (k113 : Sg → Int32 → Int32 → Int32 → Int32 → Int32 → Option Sg) (σ : Sg) (l1 : Int32) (l2 : Int32) (l5 : Int32) (s0 : Int32) : Option Sg :=
  (fX9_laysLeast_276 b k113 σ l1 l2 s0 1 l5)
theorem bX9_laysLeast_272 {X : Xc} {K : Kc} (C : MC X K cX9_laysLeast 8 RX9 rmX9_laysLeast) (hr : K.meth.sig.returnType = none) (b : Nat) (hb : moOK b){k113 : Sg → Int32 → Int32 → Int32 → Int32 → Int32 → Option Sg} (hk113 : ∀ (σ : Sg) (l1 : Int32) (l2 : Int32) (l3 : Int32) (l4 : Int32) (l5 : Int32), GO X K 8 (fun r => MQv X K r) (k113 σ l1 l2 l3 l4 l5) σ 0 0 113 [some (.ref (X.ad b)), some (.int (l1)), some (.int (l2)), some (.int (l3)), some (.int (l4)), some (.int (l5)), none, none] []) (σ : Sg) (l1 : Int32) (l2 : Int32) (l5 : Int32) (s0 : Int32) : GO X K 8 (fun r => MQv X K r) (fX9_laysLeast_272 b k113 σ l1 l2 l5 s0) σ 0 0 272 [some (.ref (X.ad b)), some (.int (l1)), some (.int (l2)), none, none, some (.int (l5)), none, none] [.int (s0)] := by
  unfold fX9_laysLeast_272
  refine g_istore_n (pc := 272) (i := 3) C dX9_laysLeast_272 rfl (Nat.le_of_ble_eq_true rfl) rfl ?_
  refine g_iconst (pc := 273) (v := 1) C dX9_laysLeast_273 (by decide) ?_
  refine g_istore (pc := 274) C dX9_laysLeast_274 (Nat.le_of_ble_eq_true rfl) rfl ?_
  refine g_keep [true, true, true, true, true, true, false, false] ?_
  exact bX9_laysLeast_276 C hr b hb hk113 σ l1 l2 s0 1 l5
def fX9_laysLeast_217 (b : Nat) (k113 : Sg → Int32 → Int32 → Int32 → Int32 → Int32 → Option Sg) (σ : Sg) (l1 : Int32) (l3 : Int32) (l5 : Int32) (l6 : Int32) (l7 : Int32) (s0 : Int32) : Option Sg :=
  if l6 = 0 then
    if ck ((2 * l5) + 1) 48 then
      if (σ.1 (b + 6) ((2 * l5) + 1).toNatClampNeg) ≤ l3 then
        (fX9_laysLeast_272 b k113 σ l1 s0 l5 l3)
      else
        if ck ((2 * l5) + 1) 48 then
          (fX9_laysLeast_272 b k113 σ l1 s0 l5 (σ.1 (b + 6) ((2 * l5) + 1).toNatClampNeg))
        else none
    else none
  else
    if ck ((2 * l5) + 1) 48 then
      (fX9_laysLeast_272 b k113 σ l1 s0 l5 ((l3 + l7) + (σ.1 (b + 6) ((2 * l5) + 1).toNatClampNeg)))
    else none
theorem bX9_laysLeast_217 {X : Xc} {K : Kc} (C : MC X K cX9_laysLeast 8 RX9 rmX9_laysLeast) (hr : K.meth.sig.returnType = none) (b : Nat) (hb : moOK b){k113 : Sg → Int32 → Int32 → Int32 → Int32 → Int32 → Option Sg} (hk113 : ∀ (σ : Sg) (l1 : Int32) (l2 : Int32) (l3 : Int32) (l4 : Int32) (l5 : Int32), GO X K 8 (fun r => MQv X K r) (k113 σ l1 l2 l3 l4 l5) σ 0 0 113 [some (.ref (X.ad b)), some (.int (l1)), some (.int (l2)), some (.int (l3)), some (.int (l4)), some (.int (l5)), none, none] []) (σ : Sg) (l1 : Int32) (l3 : Int32) (l5 : Int32) (l6 : Int32) (l7 : Int32) (s0 : Int32) : GO X K 8 (fun r => MQv X K r) (fX9_laysLeast_217 b k113 σ l1 l3 l5 l6 l7 s0) σ 0 0 217 [some (.ref (X.ad b)), some (.int (l1)), none, some (.int (l3)), none, some (.int (l5)), some (.int (l6)), some (.int (l7))] [.int (s0)] := by
  unfold fX9_laysLeast_217
  refine g_istore_n (pc := 217) (i := 2) C dX9_laysLeast_217 rfl (Nat.le_of_ble_eq_true rfl) rfl ?_
  refine g_iload (pc := 218) C dX9_laysLeast_218 rfl ?_
  refine g_if_ne (pc := 220) (tgt := 256) C dX9_laysLeast_220 rfl ?_ ?_
  · refine g_aload_n (pc := 223) (i := 0) C dX9_laysLeast_223 rfl rfl ?_
    refine g_getr (pc := 224) (ci := 9) (N := 27) (T := TX9) (j := 8) (Cn := RX9) (b + 6) C rfl inlX9 (Nat.le_of_ble_eq_true rfl) q_6_8 (blk hb 0 rfl) rfl dX9_laysLeast_224 ?_
    refine g_iconst (pc := 227) (v := 2) C dX9_laysLeast_227 (by decide) ?_
    refine g_iload (pc := 228) C dX9_laysLeast_228 rfl ?_
    refine g_imul (pc := 230) C dX9_laysLeast_230 ?_
    refine g_iconst (pc := 231) (v := 1) C dX9_laysLeast_231 (by decide) ?_
    refine g_iadd (pc := 232) C dX9_laysLeast_232 ?_
    refine g_iaload (pc := 233) C (blk hb 6 rfl) dX9_laysLeast_233 ?_
    refine g_iload_n (pc := 234) (i := 3) C dX9_laysLeast_234 rfl rfl ?_
    refine g_icmp_le (pc := 235) (tgt := 252) C dX9_laysLeast_235 rfl ?_ ?_
    · refine g_iload_n (pc := 252) (i := 3) C dX9_laysLeast_252 rfl rfl ?_
      refine g_goto (pc := 253) (tgt := 272) C dX9_laysLeast_253 rfl ?_
      refine g_keep [true, true, true, false, false, true, false, false] ?_
      exact bX9_laysLeast_272 C hr b hb hk113 σ l1 s0 l5 l3
    · refine g_aload_n (pc := 238) (i := 0) C dX9_laysLeast_238 rfl rfl ?_
      refine g_getr (pc := 239) (ci := 9) (N := 27) (T := TX9) (j := 8) (Cn := RX9) (b + 6) C rfl inlX9 (Nat.le_of_ble_eq_true rfl) q_6_8 (blk hb 0 rfl) rfl dX9_laysLeast_239 ?_
      refine g_iconst (pc := 242) (v := 2) C dX9_laysLeast_242 (by decide) ?_
      refine g_iload (pc := 243) C dX9_laysLeast_243 rfl ?_
      refine g_imul (pc := 245) C dX9_laysLeast_245 ?_
      refine g_iconst (pc := 246) (v := 1) C dX9_laysLeast_246 (by decide) ?_
      refine g_iadd (pc := 247) C dX9_laysLeast_247 ?_
      refine g_iaload (pc := 248) C (blk hb 6 rfl) dX9_laysLeast_248 ?_
      refine g_goto (pc := 249) (tgt := 272) C dX9_laysLeast_249 rfl ?_
      refine g_keep [true, true, true, false, false, true, false, false] ?_
      exact bX9_laysLeast_272 C hr b hb hk113 σ l1 s0 l5 (σ.1 (b + 6) ((2 * l5) + 1).toNatClampNeg)
  · refine g_iload_n (pc := 256) (i := 3) C dX9_laysLeast_256 rfl rfl ?_
    refine g_iload (pc := 257) C dX9_laysLeast_257 rfl ?_
    refine g_iadd (pc := 259) C dX9_laysLeast_259 ?_
    refine g_aload_n (pc := 260) (i := 0) C dX9_laysLeast_260 rfl rfl ?_
    refine g_getr (pc := 261) (ci := 9) (N := 27) (T := TX9) (j := 8) (Cn := RX9) (b + 6) C rfl inlX9 (Nat.le_of_ble_eq_true rfl) q_6_8 (blk hb 0 rfl) rfl dX9_laysLeast_261 ?_
    refine g_iconst (pc := 264) (v := 2) C dX9_laysLeast_264 (by decide) ?_
    refine g_iload (pc := 265) C dX9_laysLeast_265 rfl ?_
    refine g_imul (pc := 267) C dX9_laysLeast_267 ?_
    refine g_iconst (pc := 268) (v := 1) C dX9_laysLeast_268 (by decide) ?_
    refine g_iadd (pc := 269) C dX9_laysLeast_269 ?_
    refine g_iaload (pc := 270) C (blk hb 6 rfl) dX9_laysLeast_270 ?_
    refine g_iadd (pc := 271) C dX9_laysLeast_271 ?_
    refine g_keep [true, true, true, false, false, true, false, false] ?_
    exact bX9_laysLeast_272 C hr b hb hk113 σ l1 s0 l5 ((l3 + l7) + (σ.1 (b + 6) ((2 * l5) + 1).toNatClampNeg))
def fX9_laysLeast_167 (b : Nat) (k113 : Sg → Int32 → Int32 → Int32 → Int32 → Int32 → Option Sg) (σ : Sg) (l1 : Int32) (l2 : Int32) (l3 : Int32) (l5 : Int32) (l6 : Int32) (s0 : Int32) : Option Sg :=
  if l6 = 0 then
    if ck (2 * l5) 48 then
      (fX9_laysLeast_217 b k113 σ l1 l3 l5 l6 s0 ((l2 + s0) + (σ.1 (b + 6) (2 * l5).toNatClampNeg)))
    else none
  else
    if ck (2 * l5) 48 then
      if (σ.1 (b + 6) (2 * l5).toNatClampNeg) ≤ l2 then
        (fX9_laysLeast_217 b k113 σ l1 l3 l5 l6 s0 l2)
      else
        if ck (2 * l5) 48 then
          (fX9_laysLeast_217 b k113 σ l1 l3 l5 l6 s0 (σ.1 (b + 6) (2 * l5).toNatClampNeg))
        else none
    else none
theorem bX9_laysLeast_167 {X : Xc} {K : Kc} (C : MC X K cX9_laysLeast 8 RX9 rmX9_laysLeast) (hr : K.meth.sig.returnType = none) (b : Nat) (hb : moOK b){k113 : Sg → Int32 → Int32 → Int32 → Int32 → Int32 → Option Sg} (hk113 : ∀ (σ : Sg) (l1 : Int32) (l2 : Int32) (l3 : Int32) (l4 : Int32) (l5 : Int32), GO X K 8 (fun r => MQv X K r) (k113 σ l1 l2 l3 l4 l5) σ 0 0 113 [some (.ref (X.ad b)), some (.int (l1)), some (.int (l2)), some (.int (l3)), some (.int (l4)), some (.int (l5)), none, none] []) (σ : Sg) (l1 : Int32) (l2 : Int32) (l3 : Int32) (l5 : Int32) (l6 : Int32) (s0 : Int32) : GO X K 8 (fun r => MQv X K r) (fX9_laysLeast_167 b k113 σ l1 l2 l3 l5 l6 s0) σ 0 0 167 [some (.ref (X.ad b)), some (.int (l1)), some (.int (l2)), some (.int (l3)), none, some (.int (l5)), some (.int (l6)), none] [.int (s0)] := by
  unfold fX9_laysLeast_167
  refine g_istore (pc := 167) C dX9_laysLeast_167 (Nat.le_of_ble_eq_true rfl) rfl ?_
  refine g_iload (pc := 169) C dX9_laysLeast_169 rfl ?_
  refine g_if_eq (pc := 171) (tgt := 203) C dX9_laysLeast_171 rfl ?_ ?_
  · refine g_iload_n (pc := 203) (i := 2) C dX9_laysLeast_203 rfl rfl ?_
    refine g_iload (pc := 204) C dX9_laysLeast_204 rfl ?_
    refine g_iadd (pc := 206) C dX9_laysLeast_206 ?_
    refine g_aload_n (pc := 207) (i := 0) C dX9_laysLeast_207 rfl rfl ?_
    refine g_getr (pc := 208) (ci := 9) (N := 27) (T := TX9) (j := 8) (Cn := RX9) (b + 6) C rfl inlX9 (Nat.le_of_ble_eq_true rfl) q_6_8 (blk hb 0 rfl) rfl dX9_laysLeast_208 ?_
    refine g_iconst (pc := 211) (v := 2) C dX9_laysLeast_211 (by decide) ?_
    refine g_iload (pc := 212) C dX9_laysLeast_212 rfl ?_
    refine g_imul (pc := 214) C dX9_laysLeast_214 ?_
    refine g_iaload (pc := 215) C (blk hb 6 rfl) dX9_laysLeast_215 ?_
    refine g_iadd (pc := 216) C dX9_laysLeast_216 ?_
    refine g_keep [true, true, false, true, false, true, true, true] ?_
    exact bX9_laysLeast_217 C hr b hb hk113 σ l1 l3 l5 l6 s0 ((l2 + s0) + (σ.1 (b + 6) (2 * l5).toNatClampNeg))
  · refine g_aload_n (pc := 174) (i := 0) C dX9_laysLeast_174 rfl rfl ?_
    refine g_getr (pc := 175) (ci := 9) (N := 27) (T := TX9) (j := 8) (Cn := RX9) (b + 6) C rfl inlX9 (Nat.le_of_ble_eq_true rfl) q_6_8 (blk hb 0 rfl) rfl dX9_laysLeast_175 ?_
    refine g_iconst (pc := 178) (v := 2) C dX9_laysLeast_178 (by decide) ?_
    refine g_iload (pc := 179) C dX9_laysLeast_179 rfl ?_
    refine g_imul (pc := 181) C dX9_laysLeast_181 ?_
    refine g_iaload (pc := 182) C (blk hb 6 rfl) dX9_laysLeast_182 ?_
    refine g_iload_n (pc := 183) (i := 2) C dX9_laysLeast_183 rfl rfl ?_
    refine g_icmp_le (pc := 184) (tgt := 199) C dX9_laysLeast_184 rfl ?_ ?_
    · refine g_iload_n (pc := 199) (i := 2) C dX9_laysLeast_199 rfl rfl ?_
      refine g_goto (pc := 200) (tgt := 217) C dX9_laysLeast_200 rfl ?_
      refine g_keep [true, true, false, true, false, true, true, true] ?_
      exact bX9_laysLeast_217 C hr b hb hk113 σ l1 l3 l5 l6 s0 l2
    · refine g_aload_n (pc := 187) (i := 0) C dX9_laysLeast_187 rfl rfl ?_
      refine g_getr (pc := 188) (ci := 9) (N := 27) (T := TX9) (j := 8) (Cn := RX9) (b + 6) C rfl inlX9 (Nat.le_of_ble_eq_true rfl) q_6_8 (blk hb 0 rfl) rfl dX9_laysLeast_188 ?_
      refine g_iconst (pc := 191) (v := 2) C dX9_laysLeast_191 (by decide) ?_
      refine g_iload (pc := 192) C dX9_laysLeast_192 rfl ?_
      refine g_imul (pc := 194) C dX9_laysLeast_194 ?_
      refine g_iaload (pc := 195) C (blk hb 6 rfl) dX9_laysLeast_195 ?_
      refine g_goto (pc := 196) (tgt := 217) C dX9_laysLeast_196 rfl ?_
      refine g_keep [true, true, false, true, false, true, true, true] ?_
      exact bX9_laysLeast_217 C hr b hb hk113 σ l1 l3 l5 l6 s0 (σ.1 (b + 6) (2 * l5).toNatClampNeg)
def fX9_laysLeast_155 (b : Nat) (k113 : Sg → Int32 → Int32 → Int32 → Int32 → Int32 → Option Sg) (σ : Sg) (l1 : Int32) (l2 : Int32) (l3 : Int32) (l4 : Int32) (l5 : Int32) (s0 : Int32) : Option Sg :=
  if l4 = 0 then
    (fX9_laysLeast_167 b k113 σ l1 l2 l3 l5 s0 0)
  else
    (fX9_laysLeast_167 b k113 σ l1 l2 l3 l5 s0 1)
theorem bX9_laysLeast_155 {X : Xc} {K : Kc} (C : MC X K cX9_laysLeast 8 RX9 rmX9_laysLeast) (hr : K.meth.sig.returnType = none) (b : Nat) (hb : moOK b){k113 : Sg → Int32 → Int32 → Int32 → Int32 → Int32 → Option Sg} (hk113 : ∀ (σ : Sg) (l1 : Int32) (l2 : Int32) (l3 : Int32) (l4 : Int32) (l5 : Int32), GO X K 8 (fun r => MQv X K r) (k113 σ l1 l2 l3 l4 l5) σ 0 0 113 [some (.ref (X.ad b)), some (.int (l1)), some (.int (l2)), some (.int (l3)), some (.int (l4)), some (.int (l5)), none, none] []) (σ : Sg) (l1 : Int32) (l2 : Int32) (l3 : Int32) (l4 : Int32) (l5 : Int32) (s0 : Int32) : GO X K 8 (fun r => MQv X K r) (fX9_laysLeast_155 b k113 σ l1 l2 l3 l4 l5 s0) σ 0 0 155 [some (.ref (X.ad b)), some (.int (l1)), some (.int (l2)), some (.int (l3)), some (.int (l4)), some (.int (l5)), none, none] [.int (s0)] := by
  unfold fX9_laysLeast_155
  refine g_istore (pc := 155) C dX9_laysLeast_155 (Nat.le_of_ble_eq_true rfl) rfl ?_
  refine g_iload (pc := 157) C dX9_laysLeast_157 rfl ?_
  refine g_if_eq (pc := 159) (tgt := 166) C dX9_laysLeast_159 rfl ?_ ?_
  · refine g_iconst (pc := 166) (v := 0) C dX9_laysLeast_166 (by decide) ?_
    refine g_keep [true, true, true, true, false, true, true, false] ?_
    exact bX9_laysLeast_167 C hr b hb hk113 σ l1 l2 l3 l5 s0 0
  · refine g_iconst (pc := 162) (v := 1) C dX9_laysLeast_162 (by decide) ?_
    refine g_goto (pc := 163) (tgt := 167) C dX9_laysLeast_163 rfl ?_
    refine g_keep [true, true, true, true, false, true, true, false] ?_
    exact bX9_laysLeast_167 C hr b hb hk113 σ l1 l2 l3 l5 s0 1
def fX9_laysLeast_113 (b : Nat) : Nat → Sg → Int32 → Int32 → Int32 → Int32 → Int32 → Option Sg
  | 0, _, _, _, _, _, _ => none
  | n + 1, σ, l1, l2, l3, l4, l5 =>
    if 24 ≤ l5 then
      (fX9_laysLeast_282 b σ l1 l2 l3 l4)
    else
      (fX9_isChild σ b l5 l1).bind fun r2 =>
      if r2 = true then
        if ck l5 24 then
          if (σ.1 (b + 5) l5.toNatClampNeg) = 0 then
            (fX9_laysLeast_276 b (fX9_laysLeast_113 b n) σ l1 l2 l3 l4 l5)
          else
            (fX9_its σ b l1 2).bind fun r3 =>
            if r3 = 1 then
              (fX9_laysLeast_155 b (fX9_laysLeast_113 b n) σ l1 l2 l3 l4 l5 1)
            else
              (fX9_laysLeast_155 b (fX9_laysLeast_113 b n) σ l1 l2 l3 l4 l5 0)
        else none
      else
        (fX9_laysLeast_276 b (fX9_laysLeast_113 b n) σ l1 l2 l3 l4 l5)
theorem bX9_laysLeast_113 {X : Xc} {K : Kc} (C : MC X K cX9_laysLeast 8 RX9 rmX9_laysLeast) (hr : K.meth.sig.returnType = none) (b : Nat) (hb : moOK b) : ∀ (n : Nat) (σ : Sg) (l1 : Int32) (l2 : Int32) (l3 : Int32) (l4 : Int32) (l5 : Int32), GO X K 8 (fun r => MQv X K r) (fX9_laysLeast_113 b n σ l1 l2 l3 l4 l5) σ 0 0 113 [some (.ref (X.ad b)), some (.int (l1)), some (.int (l2)), some (.int (l3)), some (.int (l4)), some (.int (l5)), none, none] [] := by
  intro n
  induction n with
  | zero =>
    intro σ l1 l2 l3 l4 l5
    exact g_none
  | succ n ih =>
    intro σ l1 l2 l3 l4 l5
    unfold fX9_laysLeast_113
    refine g_iload (pc := 113) C dX9_laysLeast_113 rfl ?_
    refine g_bipush (pc := 115) (v := 24) C dX9_laysLeast_115 (by decide) ?_
    refine g_icmp_ge (pc := 117) (tgt := 282) C dX9_laysLeast_117 rfl ?_ ?_
    · refine g_keep [true, true, true, true, true, false, false, false] ?_
      exact bX9_laysLeast_282 C hr b hb σ l1 l2 l3 l4
    · refine g_aload_n (pc := 120) (i := 0) C dX9_laysLeast_120 rfl rfl ?_
      refine g_iload (pc := 121) C dX9_laysLeast_121 rfl ?_
      refine g_iload_n (pc := 123) (i := 1) C dX9_laysLeast_123 rfl rfl ?_
      refine g_callVi (pc := 124) (As := [.int (l5), .int (l1)]) C (kX9_isChild X σ b l5 l1 hb) (blk hb 0 rfl) rfl q_21_8 q_21_9 q_21_10 q_1_5 q_21_11 ⟨rfl, hdX9_isChild⟩ ⟨Nat.le_of_ble_eq_true rfl, Nat.le_of_ble_eq_true rfl, rfl, rfl⟩ ⟨Nat.zero_le _, Nat.zero_le _⟩ (Nat.le_of_ble_eq_true rfl) rfl rfl dX9_laysLeast_124 (fun r2 _ => ?_)
      refine g_ifb_eq (pc := 127) (tgt := 276) C dX9_laysLeast_127 rfl ?_ ?_
      · refine g_aload_n (pc := 130) (i := 0) C dX9_laysLeast_130 rfl rfl ?_
        refine g_getr (pc := 131) (ci := 9) (N := 27) (T := TX9) (j := 7) (Cn := RX9) (b + 5) C rfl inlX9 (Nat.le_of_ble_eq_true rfl) q_6_7 (blk hb 0 rfl) rfl dX9_laysLeast_131 ?_
        refine g_iload (pc := 134) C dX9_laysLeast_134 rfl ?_
        refine g_baload (pc := 136) C (blk hb 5 rfl) dX9_laysLeast_136 ?_
        refine g_if_eq (pc := 137) (tgt := 276) C dX9_laysLeast_137 rfl ?_ ?_
        · refine g_keep [true, true, true, true, true, true, false, false] ?_
          exact bX9_laysLeast_276 C hr b hb ih σ l1 l2 l3 l4 l5
        · refine g_aload_n (pc := 140) (i := 0) C dX9_laysLeast_140 rfl rfl ?_
          refine g_iload_n (pc := 141) (i := 1) C dX9_laysLeast_141 rfl rfl ?_
          refine g_iconst (pc := 142) (v := 2) C dX9_laysLeast_142 (by decide) ?_
          refine g_callVi (pc := 143) (As := [.int (l1), .int (2)]) C (kX9_its X σ b l1 2 hb) (blk hb 0 rfl) rfl q_20_12 q_20_13 q_20_14 q_1_5 q_20_15 ⟨rfl, hdX9_its⟩ ⟨Nat.le_of_ble_eq_true rfl, Nat.le_of_ble_eq_true rfl, rfl, rfl⟩ ⟨Nat.zero_le _, Nat.zero_le _⟩ (Nat.le_of_ble_eq_true rfl) rfl rfl dX9_laysLeast_143 (fun r3 _ => ?_)
          refine g_iconst (pc := 146) (v := 1) C dX9_laysLeast_146 (by decide) ?_
          refine g_icmp_ne (pc := 147) (tgt := 154) C dX9_laysLeast_147 rfl ?_ ?_
          · refine g_iconst (pc := 150) (v := 1) C dX9_laysLeast_150 (by decide) ?_
            refine g_goto (pc := 151) (tgt := 155) C dX9_laysLeast_151 rfl ?_
            refine g_keep [true, true, true, true, true, true, false, false] ?_
            exact bX9_laysLeast_155 C hr b hb ih σ l1 l2 l3 l4 l5 1
          · refine g_iconst (pc := 154) (v := 0) C dX9_laysLeast_154 (by decide) ?_
            refine g_keep [true, true, true, true, true, true, false, false] ?_
            exact bX9_laysLeast_155 C hr b hb ih σ l1 l2 l3 l4 l5 0
      · refine g_keep [true, true, true, true, true, true, false, false] ?_
        exact bX9_laysLeast_276 C hr b hb ih σ l1 l2 l3 l4 l5
def fX9_laysLeast_101 (b : Nat) (k20 : Sg → Int32 → Int32 → Int32 → Int32 → Int32 → Option Sg) (σ : Sg) (l1 : Int32) (l2 : Int32) (l3 : Int32) (l4 : Int32) (l5 : Int32) : Option Sg :=
  (k20 σ l1 l2 l3 l4 (l5 + 1))
theorem bX9_laysLeast_101 {X : Xc} {K : Kc} (C : MC X K cX9_laysLeast 8 RX9 rmX9_laysLeast) (hr : K.meth.sig.returnType = none) (b : Nat) (hb : moOK b){k20 : Sg → Int32 → Int32 → Int32 → Int32 → Int32 → Option Sg} (hk20 : ∀ (σ : Sg) (l1 : Int32) (l2 : Int32) (l3 : Int32) (l4 : Int32) (l5 : Int32), GO X K 8 (fun r => MQv X K r) (k20 σ l1 l2 l3 l4 l5) σ 0 0 20 [some (.ref (X.ad b)), some (.int (l1)), some (.int (l2)), some (.int (l3)), some (.int (l4)), some (.int (l5)), none, none] []) (σ : Sg) (l1 : Int32) (l2 : Int32) (l3 : Int32) (l4 : Int32) (l5 : Int32) : GO X K 8 (fun r => MQv X K r) (fX9_laysLeast_101 b k20 σ l1 l2 l3 l4 l5) σ 0 0 101 [some (.ref (X.ad b)), some (.int (l1)), some (.int (l2)), some (.int (l3)), some (.int (l4)), some (.int (l5)), none, none] [] := by
  unfold fX9_laysLeast_101
  refine g_iinc (pc := 101) (v := l5 + 1) C dX9_laysLeast_101 rfl (rfl) (Nat.le_of_ble_eq_true rfl) rfl ?_
  refine g_goto (pc := 104) (tgt := 20) C dX9_laysLeast_104 rfl ?_
  refine g_keep [true, true, true, true, true, true, false, false] ?_
  exact hk20 σ l1 l2 l3 l4 (l5 + 1)
def fX9_laysLeast_100 (b : Nat) (k20 : Sg → Int32 → Int32 → Int32 → Int32 → Int32 → Option Sg) (σ : Sg) (l1 : Int32) (l2 : Int32) (l4 : Int32) (l5 : Int32) (s0 : Int32) : Option Sg :=
  (fX9_laysLeast_101 b k20 σ l1 l2 s0 l4 l5)
theorem bX9_laysLeast_100 {X : Xc} {K : Kc} (C : MC X K cX9_laysLeast 8 RX9 rmX9_laysLeast) (hr : K.meth.sig.returnType = none) (b : Nat) (hb : moOK b){k20 : Sg → Int32 → Int32 → Int32 → Int32 → Int32 → Option Sg} (hk20 : ∀ (σ : Sg) (l1 : Int32) (l2 : Int32) (l3 : Int32) (l4 : Int32) (l5 : Int32), GO X K 8 (fun r => MQv X K r) (k20 σ l1 l2 l3 l4 l5) σ 0 0 20 [some (.ref (X.ad b)), some (.int (l1)), some (.int (l2)), some (.int (l3)), some (.int (l4)), some (.int (l5)), none, none] []) (σ : Sg) (l1 : Int32) (l2 : Int32) (l4 : Int32) (l5 : Int32) (s0 : Int32) : GO X K 8 (fun r => MQv X K r) (fX9_laysLeast_100 b k20 σ l1 l2 l4 l5 s0) σ 0 0 100 [some (.ref (X.ad b)), some (.int (l1)), some (.int (l2)), none, some (.int (l4)), some (.int (l5)), none, none] [.int (s0)] := by
  unfold fX9_laysLeast_100
  refine g_istore_n (pc := 100) (i := 3) C dX9_laysLeast_100 rfl (Nat.le_of_ble_eq_true rfl) rfl ?_
  refine g_keep [true, true, true, true, true, true, false, false] ?_
  exact bX9_laysLeast_101 C hr b hb hk20 σ l1 l2 s0 l4 l5
def fX9_laysLeast_73 (b : Nat) (k20 : Sg → Int32 → Int32 → Int32 → Int32 → Int32 → Option Sg) (σ : Sg) (l1 : Int32) (l3 : Int32) (l4 : Int32) (l5 : Int32) (s0 : Int32) : Option Sg :=
  (fX9_of σ b l5 2).bind fun r11 =>
  if (r11 + 1) ≤ l3 then
    (fX9_laysLeast_100 b k20 σ l1 s0 l4 l5 l3)
  else
    (fX9_of σ b l5 2).bind fun r12 =>
    (fX9_laysLeast_100 b k20 σ l1 s0 l4 l5 (r12 + 1))
theorem bX9_laysLeast_73 {X : Xc} {K : Kc} (C : MC X K cX9_laysLeast 8 RX9 rmX9_laysLeast) (hr : K.meth.sig.returnType = none) (b : Nat) (hb : moOK b){k20 : Sg → Int32 → Int32 → Int32 → Int32 → Int32 → Option Sg} (hk20 : ∀ (σ : Sg) (l1 : Int32) (l2 : Int32) (l3 : Int32) (l4 : Int32) (l5 : Int32), GO X K 8 (fun r => MQv X K r) (k20 σ l1 l2 l3 l4 l5) σ 0 0 20 [some (.ref (X.ad b)), some (.int (l1)), some (.int (l2)), some (.int (l3)), some (.int (l4)), some (.int (l5)), none, none] []) (σ : Sg) (l1 : Int32) (l3 : Int32) (l4 : Int32) (l5 : Int32) (s0 : Int32) : GO X K 8 (fun r => MQv X K r) (fX9_laysLeast_73 b k20 σ l1 l3 l4 l5 s0) σ 0 0 73 [some (.ref (X.ad b)), some (.int (l1)), none, some (.int (l3)), some (.int (l4)), some (.int (l5)), none, none] [.int (s0)] := by
  unfold fX9_laysLeast_73
  refine g_istore_n (pc := 73) (i := 2) C dX9_laysLeast_73 rfl (Nat.le_of_ble_eq_true rfl) rfl ?_
  refine g_aload_n (pc := 74) (i := 0) C dX9_laysLeast_74 rfl rfl ?_
  refine g_iload (pc := 75) C dX9_laysLeast_75 rfl ?_
  refine g_iconst (pc := 77) (v := 2) C dX9_laysLeast_77 (by decide) ?_
  refine g_callVi (pc := 78) (As := [.int (l5), .int (2)]) C (kX9_of X σ b l5 2 hb) (blk hb 0 rfl) rfl q_10_2 q_10_3 q_10_4 q_1_5 q_10_5 ⟨rfl, hdX9_of⟩ ⟨Nat.le_of_ble_eq_true rfl, Nat.le_of_ble_eq_true rfl, rfl, rfl⟩ ⟨Nat.zero_le _, Nat.zero_le _⟩ (Nat.le_of_ble_eq_true rfl) rfl rfl dX9_laysLeast_78 (fun r11 _ => ?_)
  refine g_iconst (pc := 81) (v := 1) C dX9_laysLeast_81 (by decide) ?_
  refine g_iadd (pc := 82) C dX9_laysLeast_82 ?_
  refine g_iload_n (pc := 83) (i := 3) C dX9_laysLeast_83 rfl rfl ?_
  refine g_icmp_le (pc := 84) (tgt := 99) C dX9_laysLeast_84 rfl ?_ ?_
  · refine g_iload_n (pc := 99) (i := 3) C dX9_laysLeast_99 rfl rfl ?_
    refine g_keep [true, true, true, false, true, true, false, false] ?_
    exact bX9_laysLeast_100 C hr b hb hk20 σ l1 s0 l4 l5 l3
  · refine g_aload_n (pc := 87) (i := 0) C dX9_laysLeast_87 rfl rfl ?_
    refine g_iload (pc := 88) C dX9_laysLeast_88 rfl ?_
    refine g_iconst (pc := 90) (v := 2) C dX9_laysLeast_90 (by decide) ?_
    refine g_callVi (pc := 91) (As := [.int (l5), .int (2)]) C (kX9_of X σ b l5 2 hb) (blk hb 0 rfl) rfl q_10_2 q_10_3 q_10_4 q_1_5 q_10_5 ⟨rfl, hdX9_of⟩ ⟨Nat.le_of_ble_eq_true rfl, Nat.le_of_ble_eq_true rfl, rfl, rfl⟩ ⟨Nat.zero_le _, Nat.zero_le _⟩ (Nat.le_of_ble_eq_true rfl) rfl rfl dX9_laysLeast_91 (fun r12 _ => ?_)
    refine g_iconst (pc := 94) (v := 1) C dX9_laysLeast_94 (by decide) ?_
    refine g_iadd (pc := 95) C dX9_laysLeast_95 ?_
    refine g_goto (pc := 96) (tgt := 100) C dX9_laysLeast_96 rfl ?_
    refine g_keep [true, true, true, false, true, true, false, false] ?_
    exact bX9_laysLeast_100 C hr b hb hk20 σ l1 s0 l4 l5 (r12 + 1)
def fX9_laysLeast_20 (b : Nat) : Nat → Sg → Int32 → Int32 → Int32 → Int32 → Int32 → Option Sg
  | 0, _, _, _, _, _, _ => none
  | n + 1, σ, l1, l2, l3, l4, l5 =>
    if 12 ≤ l5 then
      (fX9_laysLeast_282 b σ l1 l2 l3 l4)
    else
      (fX9_of σ b l5 3).bind fun r7 =>
      if r7 = l1 then
        (fX9_of σ b l5 5).bind fun r8 =>
        if r8 = 0 then
          (fX9_of σ b l5 1).bind fun r9 =>
          if r9 ≤ l2 then
            (fX9_laysLeast_73 b (fX9_laysLeast_20 b n) σ l1 l3 1 l5 l2)
          else
            (fX9_of σ b l5 1).bind fun r10 =>
            (fX9_laysLeast_73 b (fX9_laysLeast_20 b n) σ l1 l3 1 l5 r10)
        else
          (fX9_laysLeast_101 b (fX9_laysLeast_20 b n) σ l1 l2 l3 l4 l5)
      else
        (fX9_laysLeast_101 b (fX9_laysLeast_20 b n) σ l1 l2 l3 l4 l5)
theorem bX9_laysLeast_20 {X : Xc} {K : Kc} (C : MC X K cX9_laysLeast 8 RX9 rmX9_laysLeast) (hr : K.meth.sig.returnType = none) (b : Nat) (hb : moOK b) : ∀ (n : Nat) (σ : Sg) (l1 : Int32) (l2 : Int32) (l3 : Int32) (l4 : Int32) (l5 : Int32), GO X K 8 (fun r => MQv X K r) (fX9_laysLeast_20 b n σ l1 l2 l3 l4 l5) σ 0 0 20 [some (.ref (X.ad b)), some (.int (l1)), some (.int (l2)), some (.int (l3)), some (.int (l4)), some (.int (l5)), none, none] [] := by
  intro n
  induction n with
  | zero =>
    intro σ l1 l2 l3 l4 l5
    exact g_none
  | succ n ih =>
    intro σ l1 l2 l3 l4 l5
    unfold fX9_laysLeast_20
    refine g_iload (pc := 20) C dX9_laysLeast_20 rfl ?_
    refine g_bipush (pc := 22) (v := 12) C dX9_laysLeast_22 (by decide) ?_
    refine g_icmp_ge (pc := 24) (tgt := 107) C dX9_laysLeast_24 rfl ?_ ?_
    · refine g_goto (pc := 107) (tgt := 282) C dX9_laysLeast_107 rfl ?_
      refine g_keep [true, true, true, true, true, false, false, false] ?_
      exact bX9_laysLeast_282 C hr b hb σ l1 l2 l3 l4
    · refine g_aload_n (pc := 27) (i := 0) C dX9_laysLeast_27 rfl rfl ?_
      refine g_iload (pc := 28) C dX9_laysLeast_28 rfl ?_
      refine g_iconst (pc := 30) (v := 3) C dX9_laysLeast_30 (by decide) ?_
      refine g_callVi (pc := 31) (As := [.int (l5), .int (3)]) C (kX9_of X σ b l5 3 hb) (blk hb 0 rfl) rfl q_10_2 q_10_3 q_10_4 q_1_5 q_10_5 ⟨rfl, hdX9_of⟩ ⟨Nat.le_of_ble_eq_true rfl, Nat.le_of_ble_eq_true rfl, rfl, rfl⟩ ⟨Nat.zero_le _, Nat.zero_le _⟩ (Nat.le_of_ble_eq_true rfl) rfl rfl dX9_laysLeast_31 (fun r7 _ => ?_)
      refine g_iload_n (pc := 34) (i := 1) C dX9_laysLeast_34 rfl rfl ?_
      refine g_icmp_ne (pc := 35) (tgt := 101) C dX9_laysLeast_35 rfl ?_ ?_
      · refine g_aload_n (pc := 38) (i := 0) C dX9_laysLeast_38 rfl rfl ?_
        refine g_iload (pc := 39) C dX9_laysLeast_39 rfl ?_
        refine g_iconst (pc := 41) (v := 5) C dX9_laysLeast_41 (by decide) ?_
        refine g_callVi (pc := 42) (As := [.int (l5), .int (5)]) C (kX9_of X σ b l5 5 hb) (blk hb 0 rfl) rfl q_10_2 q_10_3 q_10_4 q_1_5 q_10_5 ⟨rfl, hdX9_of⟩ ⟨Nat.le_of_ble_eq_true rfl, Nat.le_of_ble_eq_true rfl, rfl, rfl⟩ ⟨Nat.zero_le _, Nat.zero_le _⟩ (Nat.le_of_ble_eq_true rfl) rfl rfl dX9_laysLeast_42 (fun r8 _ => ?_)
        refine g_if_ne (pc := 45) (tgt := 101) C dX9_laysLeast_45 rfl ?_ ?_
        · refine g_iconst (pc := 48) (v := 1) C dX9_laysLeast_48 (by decide) ?_
          refine g_istore (pc := 49) C dX9_laysLeast_49 (Nat.le_of_ble_eq_true rfl) rfl ?_
          refine g_aload_n (pc := 51) (i := 0) C dX9_laysLeast_51 rfl rfl ?_
          refine g_iload (pc := 52) C dX9_laysLeast_52 rfl ?_
          refine g_iconst (pc := 54) (v := 1) C dX9_laysLeast_54 (by decide) ?_
          refine g_callVi (pc := 55) (As := [.int (l5), .int (1)]) C (kX9_of X σ b l5 1 hb) (blk hb 0 rfl) rfl q_10_2 q_10_3 q_10_4 q_1_5 q_10_5 ⟨rfl, hdX9_of⟩ ⟨Nat.le_of_ble_eq_true rfl, Nat.le_of_ble_eq_true rfl, rfl, rfl⟩ ⟨Nat.zero_le _, Nat.zero_le _⟩ (Nat.le_of_ble_eq_true rfl) rfl rfl dX9_laysLeast_55 (fun r9 _ => ?_)
          refine g_iload_n (pc := 58) (i := 2) C dX9_laysLeast_58 rfl rfl ?_
          refine g_icmp_le (pc := 59) (tgt := 72) C dX9_laysLeast_59 rfl ?_ ?_
          · refine g_iload_n (pc := 72) (i := 2) C dX9_laysLeast_72 rfl rfl ?_
            refine g_keep [true, true, false, true, true, true, false, false] ?_
            exact bX9_laysLeast_73 C hr b hb ih σ l1 l3 1 l5 l2
          · refine g_aload_n (pc := 62) (i := 0) C dX9_laysLeast_62 rfl rfl ?_
            refine g_iload (pc := 63) C dX9_laysLeast_63 rfl ?_
            refine g_iconst (pc := 65) (v := 1) C dX9_laysLeast_65 (by decide) ?_
            refine g_callVi (pc := 66) (As := [.int (l5), .int (1)]) C (kX9_of X σ b l5 1 hb) (blk hb 0 rfl) rfl q_10_2 q_10_3 q_10_4 q_1_5 q_10_5 ⟨rfl, hdX9_of⟩ ⟨Nat.le_of_ble_eq_true rfl, Nat.le_of_ble_eq_true rfl, rfl, rfl⟩ ⟨Nat.zero_le _, Nat.zero_le _⟩ (Nat.le_of_ble_eq_true rfl) rfl rfl dX9_laysLeast_66 (fun r10 _ => ?_)
            refine g_goto (pc := 69) (tgt := 73) C dX9_laysLeast_69 rfl ?_
            refine g_keep [true, true, false, true, true, true, false, false] ?_
            exact bX9_laysLeast_73 C hr b hb ih σ l1 l3 1 l5 r10
        · refine g_keep [true, true, true, true, true, true, false, false] ?_
          exact bX9_laysLeast_101 C hr b hb ih σ l1 l2 l3 l4 l5
      · refine g_keep [true, true, true, true, true, true, false, false] ?_
        exact bX9_laysLeast_101 C hr b hb ih σ l1 l2 l3 l4 l5
def fX9_laysLeast (σ : Sg) (b : Nat) (p1 : Int32) : Option Sg :=
  (fX9_its σ b p1 0).bind fun r1 =>
  if r1 = 2 then
    (fX9_laysLeast_20 b FU σ p1 0 0 0 0)
  else
    (fX9_laysLeast_113 b FU σ p1 0 0 0 0)
theorem kX9_laysLeast (X : Xc) (σ : Sg) (b : Nat) (p1 : Int32) (hb : moOK b) : ∀ r, fX9_laysLeast σ b p1 = some r → Met X.l yX9_laysLeast (wsM yX9_laysLeast cX9_laysLeast 8 none) rmX9_laysLeast (va_Pc [.ref (X.ad b), .int p1] (PW X σ)) (Qv X r) 0 0 X.A := by
  refine mt_of (own := RX9) (lo := [some (.ref (X.ad b)), some (.int (p1)), none, none, none, none, none, none]) (by decide) rfl (Nat.le_of_ble_eq_true rfl) rfl (fun K C hr => ?_)
  unfold fX9_laysLeast
  refine g_iconst (pc := 0) (v := 0) C dX9_laysLeast_0 (by decide) ?_
  refine g_istore_n (pc := 1) (i := 2) C dX9_laysLeast_1 rfl (Nat.le_of_ble_eq_true rfl) rfl ?_
  refine g_iconst (pc := 2) (v := 0) C dX9_laysLeast_2 (by decide) ?_
  refine g_istore_n (pc := 3) (i := 3) C dX9_laysLeast_3 rfl (Nat.le_of_ble_eq_true rfl) rfl ?_
  refine g_iconst (pc := 4) (v := 0) C dX9_laysLeast_4 (by decide) ?_
  refine g_istore (pc := 5) C dX9_laysLeast_5 (Nat.le_of_ble_eq_true rfl) rfl ?_
  refine g_aload_n (pc := 7) (i := 0) C dX9_laysLeast_7 rfl rfl ?_
  refine g_iload_n (pc := 8) (i := 1) C dX9_laysLeast_8 rfl rfl ?_
  refine g_iconst (pc := 9) (v := 0) C dX9_laysLeast_9 (by decide) ?_
  refine g_callVi (pc := 10) (As := [.int (p1), .int (0)]) C (kX9_its X σ b p1 0 hb) (blk hb 0 rfl) rfl q_20_12 q_20_13 q_20_14 q_1_5 q_20_15 ⟨rfl, hdX9_its⟩ ⟨Nat.le_of_ble_eq_true rfl, Nat.le_of_ble_eq_true rfl, rfl, rfl⟩ ⟨Nat.zero_le _, Nat.zero_le _⟩ (Nat.le_of_ble_eq_true rfl) rfl rfl dX9_laysLeast_10 (fun r1 _ => ?_)
  refine g_iconst (pc := 13) (v := 2) C dX9_laysLeast_13 (by decide) ?_
  refine g_icmp_ne (pc := 14) (tgt := 110) C dX9_laysLeast_14 rfl ?_ ?_
  · refine g_iconst (pc := 17) (v := 0) C dX9_laysLeast_17 (by decide) ?_
    refine g_istore (pc := 18) C dX9_laysLeast_18 (Nat.le_of_ble_eq_true rfl) rfl ?_
    refine g_keep [true, true, true, true, true, true, false, false] ?_
    exact bX9_laysLeast_20 C hr b hb FU σ p1 0 0 0 0
  · refine g_iconst (pc := 110) (v := 0) C dX9_laysLeast_110 (by decide) ?_
    refine g_istore (pc := 111) C dX9_laysLeast_111 (Nat.le_of_ble_eq_true rfl) rfl ?_
    refine g_keep [true, true, true, true, true, true, false, false] ?_
    exact bX9_laysLeast_113 C hr b hb FU σ p1 0 0 0 0
theorem dX9_closed_0 : decode cX9_closed 0 = .ok (.iconst 0, 1) := by decide +kernel
theorem dX9_closed_1 : decode cX9_closed 1 = .ok (.istore_n 2, 1) := by decide +kernel
theorem dX9_closed_2 : decode cX9_closed 2 = .ok (.iconst 0, 1) := by decide +kernel
theorem dX9_closed_3 : decode cX9_closed 3 = .ok (.istore_n 3, 1) := by decide +kernel
theorem dX9_closed_4 : decode cX9_closed 4 = .ok (.iload_n 3, 1) := by decide +kernel
theorem dX9_closed_5 : decode cX9_closed 5 = .ok (.bipush 24, 2) := by decide +kernel
theorem dX9_closed_7 : decode cX9_closed 7 = .ok (.if_icmp .ge 56, 3) := by decide +kernel
theorem dX9_closed_10 : decode cX9_closed 10 = .ok (.iload_n 2, 1) := by decide +kernel
theorem dX9_closed_11 : decode cX9_closed 11 = .ok (.aload_n 0, 1) := by decide +kernel
theorem dX9_closed_12 : decode cX9_closed 12 = .ok (.iload_n 3, 1) := by decide +kernel
theorem dX9_closed_13 : decode cX9_closed 13 = .ok (.aload_n 0, 1) := by decide +kernel
theorem dX9_closed_14 : decode cX9_closed 14 = .ok (.getfield 173, 3) := by decide +kernel
theorem dX9_closed_17 : decode cX9_closed 17 = .ok (.invokevirtual 83, 3) := by decide +kernel
theorem dX9_closed_20 : decode cX9_closed 20 = .ok (.ifCond .eq 34, 3) := by decide +kernel
theorem dX9_closed_23 : decode cX9_closed 23 = .ok (.aload_n 0, 1) := by decide +kernel
theorem dX9_closed_24 : decode cX9_closed 24 = .ok (.getfield 22, 3) := by decide +kernel
theorem dX9_closed_27 : decode cX9_closed 27 = .ok (.iload_n 3, 1) := by decide +kernel
theorem dX9_closed_28 : decode cX9_closed 28 = .ok (.baload, 1) := by decide +kernel
theorem dX9_closed_29 : decode cX9_closed 29 = .ok (.ifCond .eq 25, 3) := by decide +kernel
theorem dX9_closed_32 : decode cX9_closed 32 = .ok (.aload_n 0, 1) := by decide +kernel
theorem dX9_closed_33 : decode cX9_closed 33 = .ok (.getfield 35, 3) := by decide +kernel
theorem dX9_closed_36 : decode cX9_closed 36 = .ok (.iload_n 3, 1) := by decide +kernel
theorem dX9_closed_37 : decode cX9_closed 37 = .ok (.baload, 1) := by decide +kernel
theorem dX9_closed_38 : decode cX9_closed 38 = .ok (.ifCond .ne 16, 3) := by decide +kernel
theorem dX9_closed_41 : decode cX9_closed 41 = .ok (.aload_n 0, 1) := by decide +kernel
theorem dX9_closed_42 : decode cX9_closed 42 = .ok (.getfield 26, 3) := by decide +kernel
theorem dX9_closed_45 : decode cX9_closed 45 = .ok (.iconst 2, 1) := by decide +kernel
theorem dX9_closed_46 : decode cX9_closed 46 = .ok (.iload_n 3, 1) := by decide +kernel
theorem dX9_closed_47 : decode cX9_closed 47 = .ok (.imul, 1) := by decide +kernel
theorem dX9_closed_48 : decode cX9_closed 48 = .ok (.iload_n 1, 1) := by decide +kernel
theorem dX9_closed_49 : decode cX9_closed 49 = .ok (.iadd, 1) := by decide +kernel
theorem dX9_closed_50 : decode cX9_closed 50 = .ok (.iaload, 1) := by decide +kernel
theorem dX9_closed_51 : decode cX9_closed 51 = .ok (.goto 4, 3) := by decide +kernel
theorem dX9_closed_54 : decode cX9_closed 54 = .ok (.iconst 0, 1) := by decide +kernel
theorem dX9_closed_55 : decode cX9_closed 55 = .ok (.iadd, 1) := by decide +kernel
theorem dX9_closed_56 : decode cX9_closed 56 = .ok (.istore_n 2, 1) := by decide +kernel
theorem dX9_closed_57 : decode cX9_closed 57 = .ok (.iinc 3 1, 3) := by decide +kernel
theorem dX9_closed_60 : decode cX9_closed 60 = .ok (.goto (-56), 3) := by decide +kernel
theorem dX9_closed_63 : decode cX9_closed 63 = .ok (.iload_n 2, 1) := by decide +kernel
theorem dX9_closed_64 : decode cX9_closed 64 = .ok (.ireturn, 1) := by decide +kernel
abbrev rmX9_closed : Room := { frames := 2, cells := 0, slots := 0, locals := 44 }
theorem hdX9_closed : yX9_closed.cls ≠ "java/lang/invoke/MethodHandle" ∧ yX9_closed.cls ≠ "java/lang/invoke/VarHandle" ∧ (parseMethodDescriptor yX9_closed.desc).map (fun d => d.parameters.length) = some 1 := by decide +kernel
def fX9_closed_55 (σ : Sg) (b : Nat) (k4 : Int32 → Int32 → Int32 → Option Int32) (l1 : Int32) (l3 : Int32) (s0 : Int32) (s1 : Int32) : Option Int32 :=
  nm (s0 + s1) fun v2 =>
  (k4 l1 v2 (l3 + 1))
theorem bX9_closed_55 {X : Xc} {K : Kc} (C : MC X K cX9_closed 4 RX9 rmX9_closed) (hr : K.meth.sig.returnType = (some .int)) (σ : Sg) (b : Nat) (hb : moOK b){k4 : Int32 → Int32 → Int32 → Option Int32} (hk4 : ∀ (l1 : Int32) (l2 : Int32) (l3 : Int32), GO X K 4 (fun r => MQi X K r σ) (k4 l1 l2 l3) σ 0 0 4 [some (.ref (X.ad b)), some (.int (l1)), some (.int (l2)), some (.int (l3))] []) (l1 : Int32) (l3 : Int32) (s0 : Int32) (s1 : Int32) : GO X K 4 (fun r => MQi X K r σ) (fX9_closed_55 σ b k4 l1 l3 s0 s1) σ 0 0 55 [some (.ref (X.ad b)), some (.int (l1)), none, some (.int (l3))] [.int (s1), .int (s0)] := by
  unfold fX9_closed_55
  refine g_iadd (pc := 55) C dX9_closed_55 ?_
  refine g_nm (fun v2 => ?_)
  refine g_istore_n (pc := 56) (i := 2) C dX9_closed_56 rfl (Nat.le_of_ble_eq_true rfl) rfl ?_
  refine g_iinc (pc := 57) (v := l3 + 1) C dX9_closed_57 rfl (rfl) (Nat.le_of_ble_eq_true rfl) rfl ?_
  refine g_goto (pc := 60) (tgt := 4) C dX9_closed_60 rfl ?_
  refine g_keep [true, true, true, true] ?_
  exact hk4 l1 v2 (l3 + 1)
def fX9_closed_54 (σ : Sg) (b : Nat) (k4 : Int32 → Int32 → Int32 → Option Int32) (l1 : Int32) (l3 : Int32) (s0 : Int32) : Option Int32 :=
  (fX9_closed_55 σ b k4 l1 l3 s0 0)
theorem bX9_closed_54 {X : Xc} {K : Kc} (C : MC X K cX9_closed 4 RX9 rmX9_closed) (hr : K.meth.sig.returnType = (some .int)) (σ : Sg) (b : Nat) (hb : moOK b){k4 : Int32 → Int32 → Int32 → Option Int32} (hk4 : ∀ (l1 : Int32) (l2 : Int32) (l3 : Int32), GO X K 4 (fun r => MQi X K r σ) (k4 l1 l2 l3) σ 0 0 4 [some (.ref (X.ad b)), some (.int (l1)), some (.int (l2)), some (.int (l3))] []) (l1 : Int32) (l3 : Int32) (s0 : Int32) : GO X K 4 (fun r => MQi X K r σ) (fX9_closed_54 σ b k4 l1 l3 s0) σ 0 0 54 [some (.ref (X.ad b)), some (.int (l1)), none, some (.int (l3))] [.int (s0)] := by
  unfold fX9_closed_54
  refine g_iconst (pc := 54) (v := 0) C dX9_closed_54 (by decide) ?_
  refine g_keep [true, true, false, true] ?_
  exact bX9_closed_55 C hr σ b hb hk4 l1 l3 s0 0
def fX9_closed_4 (σ : Sg) (b : Nat) : Nat → Int32 → Int32 → Int32 → Option Int32
  | 0, _, _, _ => none
  | n + 1, l1, l2, l3 =>
    if 24 ≤ l3 then
      some l2
    else
      (fX9_isChild σ b l3 (σ.1 b 12)).bind fun r1 =>
      if r1 = true then
        if ck l3 24 then
          if (σ.1 (b + 5) l3.toNatClampNeg) = 0 then
            (fX9_closed_54 σ b (fX9_closed_4 σ b n) l1 l3 l2)
          else
            if ck l3 24 then
              if (σ.1 (b + 9) l3.toNatClampNeg) = 0 then
                if ck ((2 * l3) + l1) 48 then
                  (fX9_closed_55 σ b (fX9_closed_4 σ b n) l1 l3 l2 (σ.1 (b + 6) ((2 * l3) + l1).toNatClampNeg))
                else none
              else
                (fX9_closed_54 σ b (fX9_closed_4 σ b n) l1 l3 l2)
            else none
        else none
      else
        (fX9_closed_54 σ b (fX9_closed_4 σ b n) l1 l3 l2)
theorem bX9_closed_4 {X : Xc} {K : Kc} (C : MC X K cX9_closed 4 RX9 rmX9_closed) (hr : K.meth.sig.returnType = (some .int)) (σ : Sg) (b : Nat) (hb : moOK b) : ∀ (n : Nat) (l1 : Int32) (l2 : Int32) (l3 : Int32), GO X K 4 (fun r => MQi X K r σ) (fX9_closed_4 σ b n l1 l2 l3) σ 0 0 4 [some (.ref (X.ad b)), some (.int (l1)), some (.int (l2)), some (.int (l3))] [] := by
  intro n
  induction n with
  | zero =>
    intro l1 l2 l3
    exact g_none
  | succ n ih =>
    intro l1 l2 l3
    unfold fX9_closed_4
    refine g_iload_n (pc := 4) (i := 3) C dX9_closed_4 rfl rfl ?_
    refine g_bipush (pc := 5) (v := 24) C dX9_closed_5 (by decide) ?_
    refine g_icmp_ge (pc := 7) (tgt := 63) C dX9_closed_7 rfl ?_ ?_
    · refine g_iload_n (pc := 63) (i := 2) C dX9_closed_63 rfl rfl ?_
      exact g_iret (pc := 64) C hr dX9_closed_64 rfl
    · refine g_iload_n (pc := 10) (i := 2) C dX9_closed_10 rfl rfl ?_
      refine g_aload_n (pc := 11) (i := 0) C dX9_closed_11 rfl rfl ?_
      refine g_iload_n (pc := 12) (i := 3) C dX9_closed_12 rfl rfl ?_
      refine g_aload_n (pc := 13) (i := 0) C dX9_closed_13 rfl rfl ?_
      refine g_geti (pc := 14) (ci := 9) (N := 27) (T := TX9) (j := 12) (Cn := RX9) C rfl inlX9 (Nat.le_of_ble_eq_true rfl) q_27_17 (blk hb 0 rfl) rfl dX9_closed_14 ?_
      refine g_callVi (pc := 17) (As := [.int (l3), .int (σ.1 b 12)]) C (kX9_isChild X σ b l3 (σ.1 b 12) hb) (blk hb 0 rfl) rfl q_21_8 q_21_9 q_21_10 q_1_5 q_21_11 ⟨rfl, hdX9_isChild⟩ ⟨Nat.le_of_ble_eq_true rfl, Nat.le_of_ble_eq_true rfl, rfl, rfl⟩ ⟨Nat.zero_le _, Nat.zero_le _⟩ (Nat.le_of_ble_eq_true rfl) rfl rfl dX9_closed_17 (fun r1 _ => ?_)
      refine g_ifb_eq (pc := 20) (tgt := 54) C dX9_closed_20 rfl ?_ ?_
      · refine g_aload_n (pc := 23) (i := 0) C dX9_closed_23 rfl rfl ?_
        refine g_getr (pc := 24) (ci := 9) (N := 27) (T := TX9) (j := 7) (Cn := RX9) (b + 5) C rfl inlX9 (Nat.le_of_ble_eq_true rfl) q_6_7 (blk hb 0 rfl) rfl dX9_closed_24 ?_
        refine g_iload_n (pc := 27) (i := 3) C dX9_closed_27 rfl rfl ?_
        refine g_baload (pc := 28) C (blk hb 5 rfl) dX9_closed_28 ?_
        refine g_if_eq (pc := 29) (tgt := 54) C dX9_closed_29 rfl ?_ ?_
        · refine g_keep [true, true, false, true] ?_
          exact bX9_closed_54 C hr σ b hb ih l1 l3 l2
        · refine g_aload_n (pc := 32) (i := 0) C dX9_closed_32 rfl rfl ?_
          refine g_getr (pc := 33) (ci := 9) (N := 27) (T := TX9) (j := 11) (Cn := RX9) (b + 9) C rfl inlX9 (Nat.le_of_ble_eq_true rfl) q_6_11 (blk hb 0 rfl) rfl dX9_closed_33 ?_
          refine g_iload_n (pc := 36) (i := 3) C dX9_closed_36 rfl rfl ?_
          refine g_baload (pc := 37) C (blk hb 9 rfl) dX9_closed_37 ?_
          refine g_if_ne (pc := 38) (tgt := 54) C dX9_closed_38 rfl ?_ ?_
          · refine g_aload_n (pc := 41) (i := 0) C dX9_closed_41 rfl rfl ?_
            refine g_getr (pc := 42) (ci := 9) (N := 27) (T := TX9) (j := 8) (Cn := RX9) (b + 6) C rfl inlX9 (Nat.le_of_ble_eq_true rfl) q_6_8 (blk hb 0 rfl) rfl dX9_closed_42 ?_
            refine g_iconst (pc := 45) (v := 2) C dX9_closed_45 (by decide) ?_
            refine g_iload_n (pc := 46) (i := 3) C dX9_closed_46 rfl rfl ?_
            refine g_imul (pc := 47) C dX9_closed_47 ?_
            refine g_iload_n (pc := 48) (i := 1) C dX9_closed_48 rfl rfl ?_
            refine g_iadd (pc := 49) C dX9_closed_49 ?_
            refine g_iaload (pc := 50) C (blk hb 6 rfl) dX9_closed_50 ?_
            refine g_goto (pc := 51) (tgt := 55) C dX9_closed_51 rfl ?_
            refine g_keep [true, true, false, true] ?_
            exact bX9_closed_55 C hr σ b hb ih l1 l3 l2 (σ.1 (b + 6) ((2 * l3) + l1).toNatClampNeg)
          · refine g_keep [true, true, false, true] ?_
            exact bX9_closed_54 C hr σ b hb ih l1 l3 l2
      · refine g_keep [true, true, false, true] ?_
        exact bX9_closed_54 C hr σ b hb ih l1 l3 l2
def fX9_closed (σ : Sg) (b : Nat) (p1 : Int32) : Option Int32 :=
  (fX9_closed_4 σ b FU p1 0 0)
theorem kX9_closed (X : Xc) (σ : Sg) (b : Nat) (p1 : Int32) (hb : moOK b) : ∀ r, fX9_closed σ b p1 = some r → Met X.l yX9_closed (wsM yX9_closed cX9_closed 4 (some .int)) rmX9_closed (va_Pc [.ref (X.ad b), .int p1] (PW X σ)) (Qi X r σ) 0 0 X.A := by
  refine mt_of (own := RX9) (lo := [some (.ref (X.ad b)), some (.int (p1)), none, none]) (by decide) rfl (Nat.le_of_ble_eq_true rfl) rfl (fun K C hr => ?_)
  unfold fX9_closed
  refine g_iconst (pc := 0) (v := 0) C dX9_closed_0 (by decide) ?_
  refine g_istore_n (pc := 1) (i := 2) C dX9_closed_1 rfl (Nat.le_of_ble_eq_true rfl) rfl ?_
  refine g_iconst (pc := 2) (v := 0) C dX9_closed_2 (by decide) ?_
  refine g_istore_n (pc := 3) (i := 3) C dX9_closed_3 rfl (Nat.le_of_ble_eq_true rfl) rfl ?_
  refine g_keep [true, true, true, true] ?_
  exact bX9_closed_4 C hr σ b hb FU p1 0 0
theorem dX9_evens_0 : decode cX9_evens 0 = .ok (.lload_n 1, 1) := by decide +kernel
theorem dX9_evens_1 : decode cX9_evens 1 = .ok (.lstore 5, 2) := by decide +kernel
theorem dX9_evens_3 : decode cX9_evens 3 = .ok (.iconst 0, 1) := by decide +kernel
theorem dX9_evens_4 : decode cX9_evens 4 = .ok (.istore 7, 2) := by decide +kernel
theorem dX9_evens_6 : decode cX9_evens 6 = .ok (.iload 7, 2) := by decide +kernel
theorem dX9_evens_8 : decode cX9_evens 8 = .ok (.bipush 24, 2) := by decide +kernel
theorem dX9_evens_10 : decode cX9_evens 10 = .ok (.if_icmp .ge 36, 3) := by decide +kernel
theorem dX9_evens_13 : decode cX9_evens 13 = .ok (.lload 5, 2) := by decide +kernel
theorem dX9_evens_15 : decode cX9_evens 15 = .ok (.aload_n 0, 1) := by decide +kernel
theorem dX9_evens_16 : decode cX9_evens 16 = .ok (.getfield 35, 3) := by decide +kernel
theorem dX9_evens_19 : decode cX9_evens 19 = .ok (.iload 7, 2) := by decide +kernel
theorem dX9_evens_21 : decode cX9_evens 21 = .ok (.baload, 1) := by decide +kernel
theorem dX9_evens_22 : decode cX9_evens 22 = .ok (.ifCond .eq 14, 3) := by decide +kernel
theorem dX9_evens_25 : decode cX9_evens 25 = .ok (.aload_n 0, 1) := by decide +kernel
theorem dX9_evens_26 : decode cX9_evens 26 = .ok (.getfield 32, 3) := by decide +kernel
theorem dX9_evens_29 : decode cX9_evens 29 = .ok (.iload 7, 2) := by decide +kernel
theorem dX9_evens_31 : decode cX9_evens 31 = .ok (.iaload, 1) := by decide +kernel
theorem dX9_evens_32 : decode cX9_evens 32 = .ok (.i2l, 1) := by decide +kernel
theorem dX9_evens_33 : decode cX9_evens 33 = .ok (.goto 4, 3) := by decide +kernel
theorem dX9_evens_36 : decode cX9_evens 36 = .ok (.lconst 0, 1) := by decide +kernel
theorem dX9_evens_37 : decode cX9_evens 37 = .ok (.lsub, 1) := by decide +kernel
theorem dX9_evens_38 : decode cX9_evens 38 = .ok (.lstore 5, 2) := by decide +kernel
theorem dX9_evens_40 : decode cX9_evens 40 = .ok (.iinc 7 1, 3) := by decide +kernel
theorem dX9_evens_43 : decode cX9_evens 43 = .ok (.goto (-37), 3) := by decide +kernel
theorem dX9_evens_46 : decode cX9_evens 46 = .ok (.lload 5, 2) := by decide +kernel
theorem dX9_evens_48 : decode cX9_evens 48 = .ok (.lconst 0, 1) := by decide +kernel
theorem dX9_evens_49 : decode cX9_evens 49 = .ok (.lcmp, 1) := by decide +kernel
theorem dX9_evens_50 : decode cX9_evens 50 = .ok (.ifCond .le 119, 3) := by decide +kernel
theorem dX9_evens_53 : decode cX9_evens 53 = .ok (.iconst (-1), 1) := by decide +kernel
theorem dX9_evens_54 : decode cX9_evens 54 = .ok (.istore 7, 2) := by decide +kernel
theorem dX9_evens_56 : decode cX9_evens 56 = .ok (.ldc2_w 176, 3) := by decide +kernel
theorem dX9_evens_59 : decode cX9_evens 59 = .ok (.lstore 8, 2) := by decide +kernel
theorem dX9_evens_61 : decode cX9_evens 61 = .ok (.iconst 0, 1) := by decide +kernel
theorem dX9_evens_62 : decode cX9_evens 62 = .ok (.istore 10, 2) := by decide +kernel
theorem dX9_evens_64 : decode cX9_evens 64 = .ok (.iload 10, 2) := by decide +kernel
theorem dX9_evens_66 : decode cX9_evens 66 = .ok (.aload_n 0, 1) := by decide +kernel
theorem dX9_evens_67 : decode cX9_evens 67 = .ok (.aload_n 0, 1) := by decide +kernel
theorem dX9_evens_68 : decode cX9_evens 68 = .ok (.getfield 173, 3) := by decide +kernel
theorem dX9_evens_71 : decode cX9_evens 71 = .ok (.invokevirtual 113, 3) := by decide +kernel
theorem dX9_evens_74 : decode cX9_evens 74 = .ok (.if_icmp .ge 67, 3) := by decide +kernel
theorem dX9_evens_77 : decode cX9_evens 77 = .ok (.aload_n 0, 1) := by decide +kernel
theorem dX9_evens_78 : decode cX9_evens 78 = .ok (.aload_n 0, 1) := by decide +kernel
theorem dX9_evens_79 : decode cX9_evens 79 = .ok (.getfield 173, 3) := by decide +kernel
theorem dX9_evens_82 : decode cX9_evens 82 = .ok (.iload 10, 2) := by decide +kernel
theorem dX9_evens_84 : decode cX9_evens 84 = .ok (.invokevirtual 116, 3) := by decide +kernel
theorem dX9_evens_87 : decode cX9_evens 87 = .ok (.istore 11, 2) := by decide +kernel
theorem dX9_evens_89 : decode cX9_evens 89 = .ok (.aload_n 0, 1) := by decide +kernel
theorem dX9_evens_90 : decode cX9_evens 90 = .ok (.getfield 35, 3) := by decide +kernel
theorem dX9_evens_93 : decode cX9_evens 93 = .ok (.iload 11, 2) := by decide +kernel
theorem dX9_evens_95 : decode cX9_evens 95 = .ok (.baload, 1) := by decide +kernel
theorem dX9_evens_96 : decode cX9_evens 96 = .ok (.ifCond .eq 18, 3) := by decide +kernel
theorem dX9_evens_99 : decode cX9_evens 99 = .ok (.lload_n 1, 1) := by decide +kernel
theorem dX9_evens_100 : decode cX9_evens 100 = .ok (.aload_n 0, 1) := by decide +kernel
theorem dX9_evens_101 : decode cX9_evens 101 = .ok (.iload 11, 2) := by decide +kernel
theorem dX9_evens_103 : decode cX9_evens 103 = .ok (.iconst 3, 1) := by decide +kernel
theorem dX9_evens_104 : decode cX9_evens 104 = .ok (.invokevirtual 76, 3) := by decide +kernel
theorem dX9_evens_107 : decode cX9_evens 107 = .ok (.i2l, 1) := by decide +kernel
theorem dX9_evens_108 : decode cX9_evens 108 = .ok (.lmul, 1) := by decide +kernel
theorem dX9_evens_109 : decode cX9_evens 109 = .ok (.lload_n 3, 1) := by decide +kernel
theorem dX9_evens_110 : decode cX9_evens 110 = .ok (.lrem, 1) := by decide +kernel
theorem dX9_evens_111 : decode cX9_evens 111 = .ok (.goto 6, 3) := by decide +kernel
theorem dX9_evens_114 : decode cX9_evens 114 = .ok (.ldc2_w 176, 3) := by decide +kernel
theorem dX9_evens_117 : decode cX9_evens 117 = .ok (.lstore 12, 2) := by decide +kernel
theorem dX9_evens_119 : decode cX9_evens 119 = .ok (.lload 12, 2) := by decide +kernel
theorem dX9_evens_121 : decode cX9_evens 121 = .ok (.lload 8, 2) := by decide +kernel
theorem dX9_evens_123 : decode cX9_evens 123 = .ok (.lcmp, 1) := by decide +kernel
theorem dX9_evens_124 : decode cX9_evens 124 = .ok (.ifCond .le 11, 3) := by decide +kernel
theorem dX9_evens_127 : decode cX9_evens 127 = .ok (.iload 11, 2) := by decide +kernel
theorem dX9_evens_129 : decode cX9_evens 129 = .ok (.istore 7, 2) := by decide +kernel
theorem dX9_evens_131 : decode cX9_evens 131 = .ok (.lload 12, 2) := by decide +kernel
theorem dX9_evens_133 : decode cX9_evens 133 = .ok (.lstore 8, 2) := by decide +kernel
theorem dX9_evens_135 : decode cX9_evens 135 = .ok (.iinc 10 1, 3) := by decide +kernel
theorem dX9_evens_138 : decode cX9_evens 138 = .ok (.goto (-74), 3) := by decide +kernel
theorem dX9_evens_141 : decode cX9_evens 141 = .ok (.aload_n 0, 1) := by decide +kernel
theorem dX9_evens_142 : decode cX9_evens 142 = .ok (.getfield 32, 3) := by decide +kernel
theorem dX9_evens_145 : decode cX9_evens 145 = .ok (.iload 7, 2) := by decide +kernel
theorem dX9_evens_147 : decode cX9_evens 147 = .ok (.dup2, 1) := by decide +kernel
theorem dX9_evens_148 : decode cX9_evens 148 = .ok (.iaload, 1) := by decide +kernel
theorem dX9_evens_149 : decode cX9_evens 149 = .ok (.iconst 1, 1) := by decide +kernel
theorem dX9_evens_150 : decode cX9_evens 150 = .ok (.iadd, 1) := by decide +kernel
theorem dX9_evens_151 : decode cX9_evens 151 = .ok (.iastore, 1) := by decide +kernel
theorem dX9_evens_152 : decode cX9_evens 152 = .ok (.aload_n 0, 1) := by decide +kernel
theorem dX9_evens_153 : decode cX9_evens 153 = .ok (.getfield 35, 3) := by decide +kernel
theorem dX9_evens_156 : decode cX9_evens 156 = .ok (.iload 7, 2) := by decide +kernel
theorem dX9_evens_158 : decode cX9_evens 158 = .ok (.iconst 0, 1) := by decide +kernel
theorem dX9_evens_159 : decode cX9_evens 159 = .ok (.bastore, 1) := by decide +kernel
theorem dX9_evens_160 : decode cX9_evens 160 = .ok (.lload 5, 2) := by decide +kernel
theorem dX9_evens_162 : decode cX9_evens 162 = .ok (.lconst 1, 1) := by decide +kernel
theorem dX9_evens_163 : decode cX9_evens 163 = .ok (.lsub, 1) := by decide +kernel
theorem dX9_evens_164 : decode cX9_evens 164 = .ok (.lstore 5, 2) := by decide +kernel
theorem dX9_evens_166 : decode cX9_evens 166 = .ok (.goto (-120), 3) := by decide +kernel
theorem dX9_evens_169 : decode cX9_evens 169 = .ok (.return_, 1) := by decide +kernel
abbrev rmX9_evens : Room := { frames := 3, cells := 0, slots := 0, locals := 67 }
theorem hdX9_evens : yX9_evens.cls ≠ "java/lang/invoke/MethodHandle" ∧ yX9_evens.cls ≠ "java/lang/invoke/VarHandle" ∧ (parseMethodDescriptor yX9_evens.desc).map (fun d => d.parameters.length) = some 2 := by decide +kernel
def fX9_evens_135 (b : Nat) (k46 : Sg → Int64 → Int64 → Int64 → Option Sg) (k64 : Sg → Int64 → Int64 → Int64 → Int32 → Int64 → Int32 → Option Sg) (σ : Sg) (l1 : Int64) (l3 : Int64) (l5 : Int64) (l7 : Int32) (l8 : Int64) (l10 : Int32) : Option Sg :=
  (k64 σ l1 l3 l5 l7 l8 (l10 + 1))
theorem bX9_evens_135 {X : Xc} {K : Kc} (C : MC X K cX9_evens 14 RX9 rmX9_evens) (hr : K.meth.sig.returnType = none) (b : Nat) (hb : moOK b){k46 : Sg → Int64 → Int64 → Int64 → Option Sg} {k64 : Sg → Int64 → Int64 → Int64 → Int32 → Int64 → Int32 → Option Sg} (hk46 : ∀ (σ : Sg) (l1 : Int64) (l3 : Int64) (l5 : Int64), GO X K 14 (fun r => MQv X K r) (k46 σ l1 l3 l5) σ 0 0 46 [some (.ref (X.ad b)), some (.long (l1)), none, some (.long (l3)), none, some (.long (l5)), none, none, none, none, none, none, none, none] []) (hk64 : ∀ (σ : Sg) (l1 : Int64) (l3 : Int64) (l5 : Int64) (l7 : Int32) (l8 : Int64) (l10 : Int32), GO X K 14 (fun r => MQv X K r) (k64 σ l1 l3 l5 l7 l8 l10) σ 0 0 64 [some (.ref (X.ad b)), some (.long (l1)), none, some (.long (l3)), none, some (.long (l5)), none, some (.int (l7)), some (.long (l8)), none, some (.int (l10)), none, none, none] []) (σ : Sg) (l1 : Int64) (l3 : Int64) (l5 : Int64) (l7 : Int32) (l8 : Int64) (l10 : Int32) : GO X K 14 (fun r => MQv X K r) (fX9_evens_135 b k46 k64 σ l1 l3 l5 l7 l8 l10) σ 0 0 135 [some (.ref (X.ad b)), some (.long (l1)), none, some (.long (l3)), none, some (.long (l5)), none, some (.int (l7)), some (.long (l8)), none, some (.int (l10)), none, none, none] [] := by
  unfold fX9_evens_135
  refine g_iinc (pc := 135) (v := l10 + 1) C dX9_evens_135 rfl (rfl) (Nat.le_of_ble_eq_true rfl) rfl ?_
  refine g_goto (pc := 138) (tgt := 64) C dX9_evens_138 rfl ?_
  refine g_keep [true, true, false, true, false, true, false, true, true, false, true, false, false, false] ?_
  exact hk64 σ l1 l3 l5 l7 l8 (l10 + 1)
def fX9_evens_117 (b : Nat) (k46 : Sg → Int64 → Int64 → Int64 → Option Sg) (k64 : Sg → Int64 → Int64 → Int64 → Int32 → Int64 → Int32 → Option Sg) (σ : Sg) (l1 : Int64) (l3 : Int64) (l5 : Int64) (l7 : Int32) (l8 : Int64) (l10 : Int32) (l11 : Int32) (s0 : Int64) : Option Sg :=
  if (lg_cmp s0 l8) ≤ 0 then
    (fX9_evens_135 b k46 k64 σ l1 l3 l5 l7 l8 l10)
  else
    (fX9_evens_135 b k46 k64 σ l1 l3 l5 l11 s0 l10)
theorem bX9_evens_117 {X : Xc} {K : Kc} (C : MC X K cX9_evens 14 RX9 rmX9_evens) (hr : K.meth.sig.returnType = none) (b : Nat) (hb : moOK b){k46 : Sg → Int64 → Int64 → Int64 → Option Sg} {k64 : Sg → Int64 → Int64 → Int64 → Int32 → Int64 → Int32 → Option Sg} (hk46 : ∀ (σ : Sg) (l1 : Int64) (l3 : Int64) (l5 : Int64), GO X K 14 (fun r => MQv X K r) (k46 σ l1 l3 l5) σ 0 0 46 [some (.ref (X.ad b)), some (.long (l1)), none, some (.long (l3)), none, some (.long (l5)), none, none, none, none, none, none, none, none] []) (hk64 : ∀ (σ : Sg) (l1 : Int64) (l3 : Int64) (l5 : Int64) (l7 : Int32) (l8 : Int64) (l10 : Int32), GO X K 14 (fun r => MQv X K r) (k64 σ l1 l3 l5 l7 l8 l10) σ 0 0 64 [some (.ref (X.ad b)), some (.long (l1)), none, some (.long (l3)), none, some (.long (l5)), none, some (.int (l7)), some (.long (l8)), none, some (.int (l10)), none, none, none] []) (σ : Sg) (l1 : Int64) (l3 : Int64) (l5 : Int64) (l7 : Int32) (l8 : Int64) (l10 : Int32) (l11 : Int32) (s0 : Int64) : GO X K 14 (fun r => MQv X K r) (fX9_evens_117 b k46 k64 σ l1 l3 l5 l7 l8 l10 l11 s0) σ 0 0 117 [some (.ref (X.ad b)), some (.long (l1)), none, some (.long (l3)), none, some (.long (l5)), none, some (.int (l7)), some (.long (l8)), none, some (.int (l10)), some (.int (l11)), none, none] [.long (s0)] := by
  unfold fX9_evens_117
  refine g_lstore (pc := 117) C dX9_evens_117 (Nat.le_of_ble_eq_true rfl) rfl ?_
  refine g_lload (pc := 119) C dX9_evens_119 rfl ?_
  refine g_lload (pc := 121) C dX9_evens_121 rfl ?_
  refine g_lcmp (pc := 123) C dX9_evens_123 ?_
  refine g_if_le (pc := 124) (tgt := 135) C dX9_evens_124 rfl ?_ ?_
  · refine g_keep [true, true, false, true, false, true, false, true, true, false, true, false, false, false] ?_
    exact bX9_evens_135 C hr b hb hk46 hk64 σ l1 l3 l5 l7 l8 l10
  · refine g_iload (pc := 127) C dX9_evens_127 rfl ?_
    refine g_istore (pc := 129) C dX9_evens_129 (Nat.le_of_ble_eq_true rfl) rfl ?_
    refine g_lload (pc := 131) C dX9_evens_131 rfl ?_
    refine g_lstore (pc := 133) C dX9_evens_133 (Nat.le_of_ble_eq_true rfl) rfl ?_
    refine g_keep [true, true, false, true, false, true, false, true, true, false, true, false, false, false] ?_
    exact bX9_evens_135 C hr b hb hk46 hk64 σ l1 l3 l5 l11 s0 l10
def fX9_evens_64 (b : Nat) (k46 : Sg → Int64 → Int64 → Int64 → Option Sg) : Nat → Sg → Int64 → Int64 → Int64 → Int32 → Int64 → Int32 → Option Sg
  | 0, _, _, _, _, _, _, _ => none
  | n + 1, σ, l1, l3, l5, l7, l8, l10 =>
    (fX9_childMany σ b (σ.1 b 12)).bind fun r2 =>
    if r2 ≤ l10 then
      if ck l7 24 then
        if ck l7 24 then
          nm (su σ (b + 8) l7.toNatClampNeg ((σ.1 (b + 8) l7.toNatClampNeg) + 1)) fun σ3 =>
          if ck l7 24 then
            nm (su σ3 (b + 9) l7.toNatClampNeg (vp_nar .boolean 0)) fun σ4 =>
            nm (l5 - (1 : Int64)) fun v5 =>
            (k46 σ4 l1 l3 v5)
          else none
        else none
      else none
    else
      (fX9_child σ b (σ.1 b 12) l10).bind fun r6 =>
      if ck r6 24 then
        if (σ.1 (b + 9) r6.toNatClampNeg) = 0 then
          (fX9_evens_117 b k46 (fX9_evens_64 b k46 n) σ l1 l3 l5 l7 l8 l10 r6 ((-1) : Int64))
        else
          (fX9_its σ b r6 3).bind fun r7 =>
          if l3 = 0 then none else
          (fX9_evens_117 b k46 (fX9_evens_64 b k46 n) σ l1 l3 l5 l7 l8 l10 r6 ((l1 * r7.toInt64) - (l1 * r7.toInt64) / l3 * l3))
      else none
theorem bX9_evens_64 {X : Xc} {K : Kc} (C : MC X K cX9_evens 14 RX9 rmX9_evens) (hr : K.meth.sig.returnType = none) (b : Nat) (hb : moOK b){k46 : Sg → Int64 → Int64 → Int64 → Option Sg} (hk46 : ∀ (σ : Sg) (l1 : Int64) (l3 : Int64) (l5 : Int64), GO X K 14 (fun r => MQv X K r) (k46 σ l1 l3 l5) σ 0 0 46 [some (.ref (X.ad b)), some (.long (l1)), none, some (.long (l3)), none, some (.long (l5)), none, none, none, none, none, none, none, none] []) : ∀ (n : Nat) (σ : Sg) (l1 : Int64) (l3 : Int64) (l5 : Int64) (l7 : Int32) (l8 : Int64) (l10 : Int32), GO X K 14 (fun r => MQv X K r) (fX9_evens_64 b k46 n σ l1 l3 l5 l7 l8 l10) σ 0 0 64 [some (.ref (X.ad b)), some (.long (l1)), none, some (.long (l3)), none, some (.long (l5)), none, some (.int (l7)), some (.long (l8)), none, some (.int (l10)), none, none, none] [] := by
  intro n
  induction n with
  | zero =>
    intro σ l1 l3 l5 l7 l8 l10
    exact g_none
  | succ n ih =>
    intro σ l1 l3 l5 l7 l8 l10
    unfold fX9_evens_64
    refine g_iload (pc := 64) C dX9_evens_64 rfl ?_
    refine g_aload_n (pc := 66) (i := 0) C dX9_evens_66 rfl rfl ?_
    refine g_aload_n (pc := 67) (i := 0) C dX9_evens_67 rfl rfl ?_
    refine g_geti (pc := 68) (ci := 9) (N := 27) (T := TX9) (j := 12) (Cn := RX9) C rfl inlX9 (Nat.le_of_ble_eq_true rfl) q_27_17 (blk hb 0 rfl) rfl dX9_evens_68 ?_
    refine g_callVi (pc := 71) (As := [.int (σ.1 b 12)]) C (kX9_childMany X σ b (σ.1 b 12) hb) (blk hb 0 rfl) rfl q_21_16 q_21_17 q_21_18 q_1_5 q_21_19 ⟨rfl, hdX9_childMany⟩ ⟨Nat.le_of_ble_eq_true rfl, Nat.le_of_ble_eq_true rfl, rfl, rfl⟩ ⟨Nat.zero_le _, Nat.zero_le _⟩ (Nat.le_of_ble_eq_true rfl) rfl rfl dX9_evens_71 (fun r2 _ => ?_)
    refine g_icmp_ge (pc := 74) (tgt := 141) C dX9_evens_74 rfl ?_ ?_
    · refine g_aload_n (pc := 141) (i := 0) C dX9_evens_141 rfl rfl ?_
      refine g_getr (pc := 142) (ci := 9) (N := 27) (T := TX9) (j := 10) (Cn := RX9) (b + 8) C rfl inlX9 (Nat.le_of_ble_eq_true rfl) q_6_10 (blk hb 0 rfl) rfl dX9_evens_142 ?_
      refine g_iload (pc := 145) C dX9_evens_145 rfl ?_
      refine g_dup2 (pc := 147) C dX9_evens_147 rfl rfl ?_
      refine g_iaload (pc := 148) C (blk hb 8 rfl) dX9_evens_148 ?_
      refine g_iconst (pc := 149) (v := 1) C dX9_evens_149 (by decide) ?_
      refine g_iadd (pc := 150) C dX9_evens_150 ?_
      refine g_iastore (pc := 151) C (blk hb 8 rfl) dX9_evens_151 ?_
      refine g_nms (fun σ3 => ?_)
      refine g_aload_n (pc := 152) (i := 0) C dX9_evens_152 rfl rfl ?_
      refine g_getr (pc := 153) (ci := 9) (N := 27) (T := TX9) (j := 11) (Cn := RX9) (b + 9) C rfl inlX9 (Nat.le_of_ble_eq_true rfl) q_6_11 (blk hb 0 rfl) rfl dX9_evens_153 ?_
      refine g_iload (pc := 156) C dX9_evens_156 rfl ?_
      refine g_iconst (pc := 158) (v := 0) C dX9_evens_158 (by decide) ?_
      refine g_bastore (pc := 159) C (blk hb 9 rfl) dX9_evens_159 ?_
      refine g_nms (fun σ4 => ?_)
      refine g_lload (pc := 160) C dX9_evens_160 rfl ?_
      refine g_lconst (pc := 162) (v := 1) C dX9_evens_162 (by decide) ?_
      refine g_lsub (pc := 163) C dX9_evens_163 ?_
      refine g_nml (fun v5 => ?_)
      refine g_lstore (pc := 164) C dX9_evens_164 (Nat.le_of_ble_eq_true rfl) rfl ?_
      refine g_goto (pc := 166) (tgt := 46) C dX9_evens_166 rfl ?_
      refine g_keep [true, true, false, true, false, true, false, false, false, false, false, false, false, false] ?_
      exact hk46 σ4 l1 l3 v5
    · refine g_aload_n (pc := 77) (i := 0) C dX9_evens_77 rfl rfl ?_
      refine g_aload_n (pc := 78) (i := 0) C dX9_evens_78 rfl rfl ?_
      refine g_geti (pc := 79) (ci := 9) (N := 27) (T := TX9) (j := 12) (Cn := RX9) C rfl inlX9 (Nat.le_of_ble_eq_true rfl) q_27_17 (blk hb 0 rfl) rfl dX9_evens_79 ?_
      refine g_iload (pc := 82) C dX9_evens_82 rfl ?_
      refine g_callVi (pc := 84) (As := [.int (σ.1 b 12), .int (l10)]) C (kX9_child X σ b (σ.1 b 12) l10 hb) (blk hb 0 rfl) rfl q_21_20 q_21_21 q_21_22 q_1_5 q_21_23 ⟨rfl, hdX9_child⟩ ⟨Nat.le_of_ble_eq_true rfl, Nat.le_of_ble_eq_true rfl, rfl, rfl⟩ ⟨Nat.zero_le _, Nat.zero_le _⟩ (Nat.le_of_ble_eq_true rfl) rfl rfl dX9_evens_84 (fun r6 _ => ?_)
      refine g_istore (pc := 87) C dX9_evens_87 (Nat.le_of_ble_eq_true rfl) rfl ?_
      refine g_aload_n (pc := 89) (i := 0) C dX9_evens_89 rfl rfl ?_
      refine g_getr (pc := 90) (ci := 9) (N := 27) (T := TX9) (j := 11) (Cn := RX9) (b + 9) C rfl inlX9 (Nat.le_of_ble_eq_true rfl) q_6_11 (blk hb 0 rfl) rfl dX9_evens_90 ?_
      refine g_iload (pc := 93) C dX9_evens_93 rfl ?_
      refine g_baload (pc := 95) C (blk hb 9 rfl) dX9_evens_95 ?_
      refine g_if_eq (pc := 96) (tgt := 114) C dX9_evens_96 rfl ?_ ?_
      · refine g_ldc2 (pc := 114) (v := (-1)) C q_28_10 dX9_evens_114 ?_
        refine g_keep [true, true, false, true, false, true, false, true, true, false, true, true, false, false] ?_
        exact bX9_evens_117 C hr b hb hk46 ih σ l1 l3 l5 l7 l8 l10 r6 ((-1) : Int64)
      · refine g_lload_n (pc := 99) (i := 1) C dX9_evens_99 rfl rfl ?_
        refine g_aload_n (pc := 100) (i := 0) C dX9_evens_100 rfl rfl ?_
        refine g_iload (pc := 101) C dX9_evens_101 rfl ?_
        refine g_iconst (pc := 103) (v := 3) C dX9_evens_103 (by decide) ?_
        refine g_callVi (pc := 104) (As := [.int (r6), .int (3)]) C (kX9_its X σ b r6 3 hb) (blk hb 0 rfl) rfl q_20_12 q_20_13 q_20_14 q_1_5 q_20_15 ⟨rfl, hdX9_its⟩ ⟨Nat.le_of_ble_eq_true rfl, Nat.le_of_ble_eq_true rfl, rfl, rfl⟩ ⟨Nat.zero_le _, Nat.zero_le _⟩ (Nat.le_of_ble_eq_true rfl) rfl rfl dX9_evens_104 (fun r7 _ => ?_)
        refine g_i2l (pc := 107) C dX9_evens_107 ?_
        refine g_lmul (pc := 108) C dX9_evens_108 ?_
        refine g_lload_n (pc := 109) (i := 3) C dX9_evens_109 rfl rfl ?_
        refine g_lrem (pc := 110) C dX9_evens_110 ?_
        refine g_goto (pc := 111) (tgt := 117) C dX9_evens_111 rfl ?_
        refine g_keep [true, true, false, true, false, true, false, true, true, false, true, true, false, false] ?_
        exact bX9_evens_117 C hr b hb hk46 ih σ l1 l3 l5 l7 l8 l10 r6 ((l1 * r7.toInt64) - (l1 * r7.toInt64) / l3 * l3)
def fX9_evens_46 (b : Nat) : Nat → Sg → Int64 → Int64 → Int64 → Option Sg
  | 0, _, _, _, _ => none
  | n + 1, σ, l1, l3, l5 =>
    if (lg_cmp l5 (0 : Int64)) ≤ 0 then
      some σ
    else
      nm (((-1) : Int64)) fun v1 =>
      (fX9_evens_64 b (fX9_evens_46 b n) FU σ l1 l3 l5 (-1) v1 0)
theorem bX9_evens_46 {X : Xc} {K : Kc} (C : MC X K cX9_evens 14 RX9 rmX9_evens) (hr : K.meth.sig.returnType = none) (b : Nat) (hb : moOK b) : ∀ (n : Nat) (σ : Sg) (l1 : Int64) (l3 : Int64) (l5 : Int64), GO X K 14 (fun r => MQv X K r) (fX9_evens_46 b n σ l1 l3 l5) σ 0 0 46 [some (.ref (X.ad b)), some (.long (l1)), none, some (.long (l3)), none, some (.long (l5)), none, none, none, none, none, none, none, none] [] := by
  intro n
  induction n with
  | zero =>
    intro σ l1 l3 l5
    exact g_none
  | succ n ih =>
    intro σ l1 l3 l5
    unfold fX9_evens_46
    refine g_lload (pc := 46) C dX9_evens_46 rfl ?_
    refine g_lconst (pc := 48) (v := 0) C dX9_evens_48 (by decide) ?_
    refine g_lcmp (pc := 49) C dX9_evens_49 ?_
    refine g_if_le (pc := 50) (tgt := 169) C dX9_evens_50 rfl ?_ ?_
    · exact g_vret (pc := 169) C hr dX9_evens_169 rfl
    · refine g_iconst (pc := 53) (v := (-1)) C dX9_evens_53 (by decide) ?_
      refine g_istore (pc := 54) C dX9_evens_54 (Nat.le_of_ble_eq_true rfl) rfl ?_
      refine g_ldc2 (pc := 56) (v := (-1)) C q_28_10 dX9_evens_56 ?_
      refine g_nml (fun v1 => ?_)
      refine g_lstore (pc := 59) C dX9_evens_59 (Nat.le_of_ble_eq_true rfl) rfl ?_
      refine g_iconst (pc := 61) (v := 0) C dX9_evens_61 (by decide) ?_
      refine g_istore (pc := 62) C dX9_evens_62 (Nat.le_of_ble_eq_true rfl) rfl ?_
      refine g_keep [true, true, false, true, false, true, false, true, true, false, true, false, false, false] ?_
      exact bX9_evens_64 C hr b hb ih FU σ l1 l3 l5 (-1) v1 0
def fX9_evens_37 (b : Nat) (k6 : Sg → Int64 → Int64 → Int64 → Int32 → Option Sg) (σ : Sg) (l1 : Int64) (l3 : Int64) (l7 : Int32) (s0 : Int64) (s1 : Int64) : Option Sg :=
  nm (s0 - s1) fun v8 =>
  (k6 σ l1 l3 v8 (l7 + 1))
theorem bX9_evens_37 {X : Xc} {K : Kc} (C : MC X K cX9_evens 14 RX9 rmX9_evens) (hr : K.meth.sig.returnType = none) (b : Nat) (hb : moOK b){k6 : Sg → Int64 → Int64 → Int64 → Int32 → Option Sg} (hk6 : ∀ (σ : Sg) (l1 : Int64) (l3 : Int64) (l5 : Int64) (l7 : Int32), GO X K 14 (fun r => MQv X K r) (k6 σ l1 l3 l5 l7) σ 0 0 6 [some (.ref (X.ad b)), some (.long (l1)), none, some (.long (l3)), none, some (.long (l5)), none, some (.int (l7)), none, none, none, none, none, none] []) (σ : Sg) (l1 : Int64) (l3 : Int64) (l7 : Int32) (s0 : Int64) (s1 : Int64) : GO X K 14 (fun r => MQv X K r) (fX9_evens_37 b k6 σ l1 l3 l7 s0 s1) σ 0 0 37 [some (.ref (X.ad b)), some (.long (l1)), none, some (.long (l3)), none, none, none, some (.int (l7)), none, none, none, none, none, none] [.long (s1), .long (s0)] := by
  unfold fX9_evens_37
  refine g_lsub (pc := 37) C dX9_evens_37 ?_
  refine g_nml (fun v8 => ?_)
  refine g_lstore (pc := 38) C dX9_evens_38 (Nat.le_of_ble_eq_true rfl) rfl ?_
  refine g_iinc (pc := 40) (v := l7 + 1) C dX9_evens_40 rfl (rfl) (Nat.le_of_ble_eq_true rfl) rfl ?_
  refine g_goto (pc := 43) (tgt := 6) C dX9_evens_43 rfl ?_
  refine g_keep [true, true, false, true, false, true, false, true, false, false, false, false, false, false] ?_
  exact hk6 σ l1 l3 v8 (l7 + 1)
def fX9_evens_6 (b : Nat) : Nat → Sg → Int64 → Int64 → Int64 → Int32 → Option Sg
  | 0, _, _, _, _, _ => none
  | n + 1, σ, l1, l3, l5, l7 =>
    if 24 ≤ l7 then
      (fX9_evens_46 b FU σ l1 l3 l5)
    else
      if ck l7 24 then
        if (σ.1 (b + 9) l7.toNatClampNeg) = 0 then
          (fX9_evens_37 b (fX9_evens_6 b n) σ l1 l3 l7 l5 (0 : Int64))
        else
          if ck l7 24 then
            (fX9_evens_37 b (fX9_evens_6 b n) σ l1 l3 l7 l5 ((σ.1 (b + 8) l7.toNatClampNeg).toInt64))
          else none
      else none
theorem bX9_evens_6 {X : Xc} {K : Kc} (C : MC X K cX9_evens 14 RX9 rmX9_evens) (hr : K.meth.sig.returnType = none) (b : Nat) (hb : moOK b) : ∀ (n : Nat) (σ : Sg) (l1 : Int64) (l3 : Int64) (l5 : Int64) (l7 : Int32), GO X K 14 (fun r => MQv X K r) (fX9_evens_6 b n σ l1 l3 l5 l7) σ 0 0 6 [some (.ref (X.ad b)), some (.long (l1)), none, some (.long (l3)), none, some (.long (l5)), none, some (.int (l7)), none, none, none, none, none, none] [] := by
  intro n
  induction n with
  | zero =>
    intro σ l1 l3 l5 l7
    exact g_none
  | succ n ih =>
    intro σ l1 l3 l5 l7
    unfold fX9_evens_6
    refine g_iload (pc := 6) C dX9_evens_6 rfl ?_
    refine g_bipush (pc := 8) (v := 24) C dX9_evens_8 (by decide) ?_
    refine g_icmp_ge (pc := 10) (tgt := 46) C dX9_evens_10 rfl ?_ ?_
    · refine g_keep [true, true, false, true, false, true, false, false, false, false, false, false, false, false] ?_
      exact bX9_evens_46 C hr b hb FU σ l1 l3 l5
    · refine g_lload (pc := 13) C dX9_evens_13 rfl ?_
      refine g_aload_n (pc := 15) (i := 0) C dX9_evens_15 rfl rfl ?_
      refine g_getr (pc := 16) (ci := 9) (N := 27) (T := TX9) (j := 11) (Cn := RX9) (b + 9) C rfl inlX9 (Nat.le_of_ble_eq_true rfl) q_6_11 (blk hb 0 rfl) rfl dX9_evens_16 ?_
      refine g_iload (pc := 19) C dX9_evens_19 rfl ?_
      refine g_baload (pc := 21) C (blk hb 9 rfl) dX9_evens_21 ?_
      refine g_if_eq (pc := 22) (tgt := 36) C dX9_evens_22 rfl ?_ ?_
      · refine g_lconst (pc := 36) (v := 0) C dX9_evens_36 (by decide) ?_
        refine g_keep [true, true, false, true, false, false, false, true, false, false, false, false, false, false] ?_
        exact bX9_evens_37 C hr b hb ih σ l1 l3 l7 l5 (0 : Int64)
      · refine g_aload_n (pc := 25) (i := 0) C dX9_evens_25 rfl rfl ?_
        refine g_getr (pc := 26) (ci := 9) (N := 27) (T := TX9) (j := 10) (Cn := RX9) (b + 8) C rfl inlX9 (Nat.le_of_ble_eq_true rfl) q_6_10 (blk hb 0 rfl) rfl dX9_evens_26 ?_
        refine g_iload (pc := 29) C dX9_evens_29 rfl ?_
        refine g_iaload (pc := 31) C (blk hb 8 rfl) dX9_evens_31 ?_
        refine g_i2l (pc := 32) C dX9_evens_32 ?_
        refine g_goto (pc := 33) (tgt := 37) C dX9_evens_33 rfl ?_
        refine g_keep [true, true, false, true, false, false, false, true, false, false, false, false, false, false] ?_
        exact bX9_evens_37 C hr b hb ih σ l1 l3 l7 l5 ((σ.1 (b + 8) l7.toNatClampNeg).toInt64)
def fX9_evens (σ : Sg) (b : Nat) (p1 : Int64) (p3 : Int64) : Option Sg :=
  (fX9_evens_6 b FU σ p1 p3 p1 0)
theorem kX9_evens (X : Xc) (σ : Sg) (b : Nat) (p1 : Int64) (p3 : Int64) (hb : moOK b) : ∀ r, fX9_evens σ b p1 p3 = some r → Met X.l yX9_evens (wsM yX9_evens cX9_evens 14 none) rmX9_evens (va_Pc [.ref (X.ad b), .long p1, .long p3] (PW X σ)) (Qv X r) 0 0 X.A := by
  refine mt_of (own := RX9) (lo := [some (.ref (X.ad b)), some (.long (p1)), none, some (.long (p3)), none, none, none, none, none, none, none, none, none, none]) (by decide) rfl (Nat.le_of_ble_eq_true rfl) rfl (fun K C hr => ?_)
  unfold fX9_evens
  refine g_lload_n (pc := 0) (i := 1) C dX9_evens_0 rfl rfl ?_
  refine g_lstore (pc := 1) C dX9_evens_1 (Nat.le_of_ble_eq_true rfl) rfl ?_
  refine g_iconst (pc := 3) (v := 0) C dX9_evens_3 (by decide) ?_
  refine g_istore (pc := 4) C dX9_evens_4 (Nat.le_of_ble_eq_true rfl) rfl ?_
  refine g_keep [true, true, false, true, false, true, false, true, false, false, false, false, false, false] ?_
  exact bX9_evens_6 C hr b hb FU σ p1 p3 p1 0
theorem dX9_tightens_0 : decode cX9_tightens 0 = .ok (.lconst 0, 1) := by decide +kernel
theorem dX9_tightens_1 : decode cX9_tightens 1 = .ok (.lstore_n 3, 1) := by decide +kernel
theorem dX9_tightens_2 : decode cX9_tightens 2 = .ok (.iconst 0, 1) := by decide +kernel
theorem dX9_tightens_3 : decode cX9_tightens 3 = .ok (.istore 5, 2) := by decide +kernel
theorem dX9_tightens_5 : decode cX9_tightens 5 = .ok (.iload 5, 2) := by decide +kernel
theorem dX9_tightens_7 : decode cX9_tightens 7 = .ok (.bipush 24, 2) := by decide +kernel
theorem dX9_tightens_9 : decode cX9_tightens 9 = .ok (.if_icmp .ge 34, 3) := by decide +kernel
theorem dX9_tightens_12 : decode cX9_tightens 12 = .ok (.lload_n 3, 1) := by decide +kernel
theorem dX9_tightens_13 : decode cX9_tightens 13 = .ok (.aload_n 0, 1) := by decide +kernel
theorem dX9_tightens_14 : decode cX9_tightens 14 = .ok (.getfield 35, 3) := by decide +kernel
theorem dX9_tightens_17 : decode cX9_tightens 17 = .ok (.iload 5, 2) := by decide +kernel
theorem dX9_tightens_19 : decode cX9_tightens 19 = .ok (.baload, 1) := by decide +kernel
theorem dX9_tightens_20 : decode cX9_tightens 20 = .ok (.ifCond .eq 14, 3) := by decide +kernel
theorem dX9_tightens_23 : decode cX9_tightens 23 = .ok (.aload_n 0, 1) := by decide +kernel
theorem dX9_tightens_24 : decode cX9_tightens 24 = .ok (.iload 5, 2) := by decide +kernel
theorem dX9_tightens_26 : decode cX9_tightens 26 = .ok (.iconst 3, 1) := by decide +kernel
theorem dX9_tightens_27 : decode cX9_tightens 27 = .ok (.invokevirtual 76, 3) := by decide +kernel
theorem dX9_tightens_30 : decode cX9_tightens 30 = .ok (.i2l, 1) := by decide +kernel
theorem dX9_tightens_31 : decode cX9_tightens 31 = .ok (.goto 4, 3) := by decide +kernel
theorem dX9_tightens_34 : decode cX9_tightens 34 = .ok (.lconst 0, 1) := by decide +kernel
theorem dX9_tightens_35 : decode cX9_tightens 35 = .ok (.ladd, 1) := by decide +kernel
theorem dX9_tightens_36 : decode cX9_tightens 36 = .ok (.lstore_n 3, 1) := by decide +kernel
theorem dX9_tightens_37 : decode cX9_tightens 37 = .ok (.iinc 5 1, 3) := by decide +kernel
theorem dX9_tightens_40 : decode cX9_tightens 40 = .ok (.goto (-35), 3) := by decide +kernel
theorem dX9_tightens_43 : decode cX9_tightens 43 = .ok (.iload_n 1, 1) := by decide +kernel
theorem dX9_tightens_44 : decode cX9_tightens 44 = .ok (.aload_n 0, 1) := by decide +kernel
theorem dX9_tightens_45 : decode cX9_tightens 45 = .ok (.iload_n 2, 1) := by decide +kernel
theorem dX9_tightens_46 : decode cX9_tightens 46 = .ok (.invokevirtual 166, 3) := by decide +kernel
theorem dX9_tightens_49 : decode cX9_tightens 49 = .ok (.isub, 1) := by decide +kernel
theorem dX9_tightens_50 : decode cX9_tightens 50 = .ok (.i2l, 1) := by decide +kernel
theorem dX9_tightens_51 : decode cX9_tightens 51 = .ok (.lstore 5, 2) := by decide +kernel
theorem dX9_tightens_53 : decode cX9_tightens 53 = .ok (.iconst 0, 1) := by decide +kernel
theorem dX9_tightens_54 : decode cX9_tightens 54 = .ok (.istore 7, 2) := by decide +kernel
theorem dX9_tightens_56 : decode cX9_tightens 56 = .ok (.iconst 0, 1) := by decide +kernel
theorem dX9_tightens_57 : decode cX9_tightens 57 = .ok (.istore 8, 2) := by decide +kernel
theorem dX9_tightens_59 : decode cX9_tightens 59 = .ok (.iload 8, 2) := by decide +kernel
theorem dX9_tightens_61 : decode cX9_tightens 61 = .ok (.bipush 24, 2) := by decide +kernel
theorem dX9_tightens_63 : decode cX9_tightens 63 = .ok (.if_icmp .ge 73, 3) := by decide +kernel
theorem dX9_tightens_66 : decode cX9_tightens 66 = .ok (.aload_n 0, 1) := by decide +kernel
theorem dX9_tightens_67 : decode cX9_tightens 67 = .ok (.getfield 35, 3) := by decide +kernel
theorem dX9_tightens_70 : decode cX9_tightens 70 = .ok (.iload 8, 2) := by decide +kernel
theorem dX9_tightens_72 : decode cX9_tightens 72 = .ok (.baload, 1) := by decide +kernel
theorem dX9_tightens_73 : decode cX9_tightens 73 = .ok (.ifCond .eq 57, 3) := by decide +kernel
theorem dX9_tightens_76 : decode cX9_tightens 76 = .ok (.aload_n 0, 1) := by decide +kernel
theorem dX9_tightens_77 : decode cX9_tightens 77 = .ok (.getfield 32, 3) := by decide +kernel
theorem dX9_tightens_80 : decode cX9_tightens 80 = .ok (.iload 8, 2) := by decide +kernel
theorem dX9_tightens_82 : decode cX9_tightens 82 = .ok (.lload 5, 2) := by decide +kernel
theorem dX9_tightens_84 : decode cX9_tightens 84 = .ok (.aload_n 0, 1) := by decide +kernel
theorem dX9_tightens_85 : decode cX9_tightens 85 = .ok (.iload 8, 2) := by decide +kernel
theorem dX9_tightens_87 : decode cX9_tightens 87 = .ok (.iconst 3, 1) := by decide +kernel
theorem dX9_tightens_88 : decode cX9_tightens 88 = .ok (.invokevirtual 76, 3) := by decide +kernel
theorem dX9_tightens_91 : decode cX9_tightens 91 = .ok (.i2l, 1) := by decide +kernel
theorem dX9_tightens_92 : decode cX9_tightens 92 = .ok (.lmul, 1) := by decide +kernel
theorem dX9_tightens_93 : decode cX9_tightens 93 = .ok (.lload_n 3, 1) := by decide +kernel
theorem dX9_tightens_94 : decode cX9_tightens 94 = .ok (.ldiv, 1) := by decide +kernel
theorem dX9_tightens_95 : decode cX9_tightens 95 = .ok (.l2i, 1) := by decide +kernel
theorem dX9_tightens_96 : decode cX9_tightens 96 = .ok (.iastore, 1) := by decide +kernel
theorem dX9_tightens_97 : decode cX9_tightens 97 = .ok (.iload 7, 2) := by decide +kernel
theorem dX9_tightens_99 : decode cX9_tightens 99 = .ok (.ifCond .ne 24, 3) := by decide +kernel
theorem dX9_tightens_102 : decode cX9_tightens 102 = .ok (.aload_n 0, 1) := by decide +kernel
theorem dX9_tightens_103 : decode cX9_tightens 103 = .ok (.getfield 32, 3) := by decide +kernel
theorem dX9_tightens_106 : decode cX9_tightens 106 = .ok (.iload 8, 2) := by decide +kernel
theorem dX9_tightens_108 : decode cX9_tightens 108 = .ok (.iaload, 1) := by decide +kernel
theorem dX9_tightens_109 : decode cX9_tightens 109 = .ok (.aload_n 0, 1) := by decide +kernel
theorem dX9_tightens_110 : decode cX9_tightens 110 = .ok (.getfield 26, 3) := by decide +kernel
theorem dX9_tightens_113 : decode cX9_tightens 113 = .ok (.iconst 2, 1) := by decide +kernel
theorem dX9_tightens_114 : decode cX9_tightens 114 = .ok (.iload 8, 2) := by decide +kernel
theorem dX9_tightens_116 : decode cX9_tightens 116 = .ok (.imul, 1) := by decide +kernel
theorem dX9_tightens_117 : decode cX9_tightens 117 = .ok (.iload_n 2, 1) := by decide +kernel
theorem dX9_tightens_118 : decode cX9_tightens 118 = .ok (.iadd, 1) := by decide +kernel
theorem dX9_tightens_119 : decode cX9_tightens 119 = .ok (.iaload, 1) := by decide +kernel
theorem dX9_tightens_120 : decode cX9_tightens 120 = .ok (.if_icmp .ge 7, 3) := by decide +kernel
theorem dX9_tightens_123 : decode cX9_tightens 123 = .ok (.iconst 1, 1) := by decide +kernel
theorem dX9_tightens_124 : decode cX9_tightens 124 = .ok (.goto 4, 3) := by decide +kernel
theorem dX9_tightens_127 : decode cX9_tightens 127 = .ok (.iconst 0, 1) := by decide +kernel
theorem dX9_tightens_128 : decode cX9_tightens 128 = .ok (.istore 7, 2) := by decide +kernel
theorem dX9_tightens_130 : decode cX9_tightens 130 = .ok (.iinc 8 1, 3) := by decide +kernel
theorem dX9_tightens_133 : decode cX9_tightens 133 = .ok (.goto (-74), 3) := by decide +kernel
theorem dX9_tightens_136 : decode cX9_tightens 136 = .ok (.iload 7, 2) := by decide +kernel
theorem dX9_tightens_138 : decode cX9_tightens 138 = .ok (.ifCond .ne 12, 3) := by decide +kernel
theorem dX9_tightens_141 : decode cX9_tightens 141 = .ok (.aload_n 0, 1) := by decide +kernel
theorem dX9_tightens_142 : decode cX9_tightens 142 = .ok (.lload 5, 2) := by decide +kernel
theorem dX9_tightens_144 : decode cX9_tightens 144 = .ok (.lload_n 3, 1) := by decide +kernel
theorem dX9_tightens_145 : decode cX9_tightens 145 = .ok (.invokevirtual 169, 3) := by decide +kernel
theorem dX9_tightens_148 : decode cX9_tightens 148 = .ok (.iconst 0, 1) := by decide +kernel
theorem dX9_tightens_149 : decode cX9_tightens 149 = .ok (.ireturn, 1) := by decide +kernel
theorem dX9_tightens_150 : decode cX9_tightens 150 = .ok (.iconst 0, 1) := by decide +kernel
theorem dX9_tightens_151 : decode cX9_tightens 151 = .ok (.istore 8, 2) := by decide +kernel
theorem dX9_tightens_153 : decode cX9_tightens 153 = .ok (.iload 8, 2) := by decide +kernel
theorem dX9_tightens_155 : decode cX9_tightens 155 = .ok (.bipush 24, 2) := by decide +kernel
theorem dX9_tightens_157 : decode cX9_tightens 157 = .ok (.if_icmp .ge 66, 3) := by decide +kernel
theorem dX9_tightens_160 : decode cX9_tightens 160 = .ok (.aload_n 0, 1) := by decide +kernel
theorem dX9_tightens_161 : decode cX9_tightens 161 = .ok (.getfield 35, 3) := by decide +kernel
theorem dX9_tightens_164 : decode cX9_tightens 164 = .ok (.iload 8, 2) := by decide +kernel
theorem dX9_tightens_166 : decode cX9_tightens 166 = .ok (.baload, 1) := by decide +kernel
theorem dX9_tightens_167 : decode cX9_tightens 167 = .ok (.ifCond .eq 50, 3) := by decide +kernel
theorem dX9_tightens_170 : decode cX9_tightens 170 = .ok (.aload_n 0, 1) := by decide +kernel
theorem dX9_tightens_171 : decode cX9_tightens 171 = .ok (.getfield 32, 3) := by decide +kernel
theorem dX9_tightens_174 : decode cX9_tightens 174 = .ok (.iload 8, 2) := by decide +kernel
theorem dX9_tightens_176 : decode cX9_tightens 176 = .ok (.iaload, 1) := by decide +kernel
theorem dX9_tightens_177 : decode cX9_tightens 177 = .ok (.aload_n 0, 1) := by decide +kernel
theorem dX9_tightens_178 : decode cX9_tightens 178 = .ok (.getfield 26, 3) := by decide +kernel
theorem dX9_tightens_181 : decode cX9_tightens 181 = .ok (.iconst 2, 1) := by decide +kernel
theorem dX9_tightens_182 : decode cX9_tightens 182 = .ok (.iload 8, 2) := by decide +kernel
theorem dX9_tightens_184 : decode cX9_tightens 184 = .ok (.imul, 1) := by decide +kernel
theorem dX9_tightens_185 : decode cX9_tightens 185 = .ok (.iload_n 2, 1) := by decide +kernel
theorem dX9_tightens_186 : decode cX9_tightens 186 = .ok (.iadd, 1) := by decide +kernel
theorem dX9_tightens_187 : decode cX9_tightens 187 = .ok (.iaload, 1) := by decide +kernel
theorem dX9_tightens_188 : decode cX9_tightens 188 = .ok (.if_icmp .ge 29, 3) := by decide +kernel
theorem dX9_tightens_191 : decode cX9_tightens 191 = .ok (.aload_n 0, 1) := by decide +kernel
theorem dX9_tightens_192 : decode cX9_tightens 192 = .ok (.getfield 32, 3) := by decide +kernel
theorem dX9_tightens_195 : decode cX9_tightens 195 = .ok (.iload 8, 2) := by decide +kernel
theorem dX9_tightens_197 : decode cX9_tightens 197 = .ok (.aload_n 0, 1) := by decide +kernel
theorem dX9_tightens_198 : decode cX9_tightens 198 = .ok (.getfield 26, 3) := by decide +kernel
theorem dX9_tightens_201 : decode cX9_tightens 201 = .ok (.iconst 2, 1) := by decide +kernel
theorem dX9_tightens_202 : decode cX9_tightens 202 = .ok (.iload 8, 2) := by decide +kernel
theorem dX9_tightens_204 : decode cX9_tightens 204 = .ok (.imul, 1) := by decide +kernel
theorem dX9_tightens_205 : decode cX9_tightens 205 = .ok (.iload_n 2, 1) := by decide +kernel
theorem dX9_tightens_206 : decode cX9_tightens 206 = .ok (.iadd, 1) := by decide +kernel
theorem dX9_tightens_207 : decode cX9_tightens 207 = .ok (.iaload, 1) := by decide +kernel
theorem dX9_tightens_208 : decode cX9_tightens 208 = .ok (.iastore, 1) := by decide +kernel
theorem dX9_tightens_209 : decode cX9_tightens 209 = .ok (.aload_n 0, 1) := by decide +kernel
theorem dX9_tightens_210 : decode cX9_tightens 210 = .ok (.getfield 35, 3) := by decide +kernel
theorem dX9_tightens_213 : decode cX9_tightens 213 = .ok (.iload 8, 2) := by decide +kernel
theorem dX9_tightens_215 : decode cX9_tightens 215 = .ok (.iconst 0, 1) := by decide +kernel
theorem dX9_tightens_216 : decode cX9_tightens 216 = .ok (.bastore, 1) := by decide +kernel
theorem dX9_tightens_217 : decode cX9_tightens 217 = .ok (.iinc 8 1, 3) := by decide +kernel
theorem dX9_tightens_220 : decode cX9_tightens 220 = .ok (.goto (-67), 3) := by decide +kernel
theorem dX9_tightens_223 : decode cX9_tightens 223 = .ok (.iconst 1, 1) := by decide +kernel
theorem dX9_tightens_224 : decode cX9_tightens 224 = .ok (.ireturn, 1) := by decide +kernel
abbrev rmX9_tightens : Room := { frames := 4, cells := 0, slots := 0, locals := 100 }
theorem hdX9_tightens : yX9_tightens.cls ≠ "java/lang/invoke/MethodHandle" ∧ yX9_tightens.cls ≠ "java/lang/invoke/VarHandle" ∧ (parseMethodDescriptor yX9_tightens.desc).map (fun d => d.parameters.length) = some 2 := by decide +kernel
def fX9_tightens_217 (b : Nat) (k153 : Sg → Int32 → Int32 → Option (Bool × Sg)) (σ : Sg) (l2 : Int32) (l8 : Int32) : Option (Bool × Sg) :=
  (k153 σ l2 (l8 + 1))
theorem bX9_tightens_217 {X : Xc} {K : Kc} (C : MC X K cX9_tightens 9 RX9 rmX9_tightens) (hr : K.meth.sig.returnType = (some .boolean)) (b : Nat) (hb : moOK b){k153 : Sg → Int32 → Int32 → Option (Bool × Sg)} (hk153 : ∀ (σ : Sg) (l2 : Int32) (l8 : Int32), GO X K 9 (fun r => MQi X K (b2i r.1) r.2) (k153 σ l2 l8) σ 0 0 153 [some (.ref (X.ad b)), none, some (.int (l2)), none, none, none, none, none, some (.int (l8))] []) (σ : Sg) (l2 : Int32) (l8 : Int32) : GO X K 9 (fun r => MQi X K (b2i r.1) r.2) (fX9_tightens_217 b k153 σ l2 l8) σ 0 0 217 [some (.ref (X.ad b)), none, some (.int (l2)), none, none, none, none, none, some (.int (l8))] [] := by
  unfold fX9_tightens_217
  refine g_iinc (pc := 217) (v := l8 + 1) C dX9_tightens_217 rfl (rfl) (Nat.le_of_ble_eq_true rfl) rfl ?_
  refine g_goto (pc := 220) (tgt := 153) C dX9_tightens_220 rfl ?_
  refine g_keep [true, false, true, false, false, false, false, false, true] ?_
  exact hk153 σ l2 (l8 + 1)
def fX9_tightens_153 (b : Nat) : Nat → Sg → Int32 → Int32 → Option (Bool × Sg)
  | 0, _, _, _ => none
  | n + 1, σ, l2, l8 =>
    if 24 ≤ l8 then
      some (true, σ)
    else
      if ck l8 24 then
        if (σ.1 (b + 9) l8.toNatClampNeg) = 0 then
          (fX9_tightens_217 b (fX9_tightens_153 b n) σ l2 l8)
        else
          if ck l8 24 then
            if ck ((2 * l8) + l2) 48 then
              if (σ.1 (b + 6) ((2 * l8) + l2).toNatClampNeg) ≤ (σ.1 (b + 8) l8.toNatClampNeg) then
                (fX9_tightens_217 b (fX9_tightens_153 b n) σ l2 l8)
              else
                if ck ((2 * l8) + l2) 48 then
                  if ck l8 24 then
                    nm (su σ (b + 8) l8.toNatClampNeg (σ.1 (b + 6) ((2 * l8) + l2).toNatClampNeg)) fun σ8 =>
                    if ck l8 24 then
                      nm (su σ8 (b + 9) l8.toNatClampNeg (vp_nar .boolean 0)) fun σ9 =>
                      (fX9_tightens_217 b (fX9_tightens_153 b n) σ9 l2 l8)
                    else none
                  else none
                else none
            else none
          else none
      else none
theorem bX9_tightens_153 {X : Xc} {K : Kc} (C : MC X K cX9_tightens 9 RX9 rmX9_tightens) (hr : K.meth.sig.returnType = (some .boolean)) (b : Nat) (hb : moOK b) : ∀ (n : Nat) (σ : Sg) (l2 : Int32) (l8 : Int32), GO X K 9 (fun r => MQi X K (b2i r.1) r.2) (fX9_tightens_153 b n σ l2 l8) σ 0 0 153 [some (.ref (X.ad b)), none, some (.int (l2)), none, none, none, none, none, some (.int (l8))] [] := by
  intro n
  induction n with
  | zero =>
    intro σ l2 l8
    exact g_none
  | succ n ih =>
    intro σ l2 l8
    unfold fX9_tightens_153
    refine g_iload (pc := 153) C dX9_tightens_153 rfl ?_
    refine g_bipush (pc := 155) (v := 24) C dX9_tightens_155 (by decide) ?_
    refine g_icmp_ge (pc := 157) (tgt := 223) C dX9_tightens_157 rfl ?_ ?_
    · refine g_iconst (pc := 223) (v := 1) C dX9_tightens_223 (by decide) ?_
      exact g_zret (pc := 224) C hr dX9_tightens_224 rfl
    · refine g_aload_n (pc := 160) (i := 0) C dX9_tightens_160 rfl rfl ?_
      refine g_getr (pc := 161) (ci := 9) (N := 27) (T := TX9) (j := 11) (Cn := RX9) (b + 9) C rfl inlX9 (Nat.le_of_ble_eq_true rfl) q_6_11 (blk hb 0 rfl) rfl dX9_tightens_161 ?_
      refine g_iload (pc := 164) C dX9_tightens_164 rfl ?_
      refine g_baload (pc := 166) C (blk hb 9 rfl) dX9_tightens_166 ?_
      refine g_if_eq (pc := 167) (tgt := 217) C dX9_tightens_167 rfl ?_ ?_
      · refine g_keep [true, false, true, false, false, false, false, false, true] ?_
        exact bX9_tightens_217 C hr b hb ih σ l2 l8
      · refine g_aload_n (pc := 170) (i := 0) C dX9_tightens_170 rfl rfl ?_
        refine g_getr (pc := 171) (ci := 9) (N := 27) (T := TX9) (j := 10) (Cn := RX9) (b + 8) C rfl inlX9 (Nat.le_of_ble_eq_true rfl) q_6_10 (blk hb 0 rfl) rfl dX9_tightens_171 ?_
        refine g_iload (pc := 174) C dX9_tightens_174 rfl ?_
        refine g_iaload (pc := 176) C (blk hb 8 rfl) dX9_tightens_176 ?_
        refine g_aload_n (pc := 177) (i := 0) C dX9_tightens_177 rfl rfl ?_
        refine g_getr (pc := 178) (ci := 9) (N := 27) (T := TX9) (j := 8) (Cn := RX9) (b + 6) C rfl inlX9 (Nat.le_of_ble_eq_true rfl) q_6_8 (blk hb 0 rfl) rfl dX9_tightens_178 ?_
        refine g_iconst (pc := 181) (v := 2) C dX9_tightens_181 (by decide) ?_
        refine g_iload (pc := 182) C dX9_tightens_182 rfl ?_
        refine g_imul (pc := 184) C dX9_tightens_184 ?_
        refine g_iload_n (pc := 185) (i := 2) C dX9_tightens_185 rfl rfl ?_
        refine g_iadd (pc := 186) C dX9_tightens_186 ?_
        refine g_iaload (pc := 187) C (blk hb 6 rfl) dX9_tightens_187 ?_
        refine g_icmp_ge (pc := 188) (tgt := 217) C dX9_tightens_188 rfl ?_ ?_
        · refine g_keep [true, false, true, false, false, false, false, false, true] ?_
          exact bX9_tightens_217 C hr b hb ih σ l2 l8
        · refine g_aload_n (pc := 191) (i := 0) C dX9_tightens_191 rfl rfl ?_
          refine g_getr (pc := 192) (ci := 9) (N := 27) (T := TX9) (j := 10) (Cn := RX9) (b + 8) C rfl inlX9 (Nat.le_of_ble_eq_true rfl) q_6_10 (blk hb 0 rfl) rfl dX9_tightens_192 ?_
          refine g_iload (pc := 195) C dX9_tightens_195 rfl ?_
          refine g_aload_n (pc := 197) (i := 0) C dX9_tightens_197 rfl rfl ?_
          refine g_getr (pc := 198) (ci := 9) (N := 27) (T := TX9) (j := 8) (Cn := RX9) (b + 6) C rfl inlX9 (Nat.le_of_ble_eq_true rfl) q_6_8 (blk hb 0 rfl) rfl dX9_tightens_198 ?_
          refine g_iconst (pc := 201) (v := 2) C dX9_tightens_201 (by decide) ?_
          refine g_iload (pc := 202) C dX9_tightens_202 rfl ?_
          refine g_imul (pc := 204) C dX9_tightens_204 ?_
          refine g_iload_n (pc := 205) (i := 2) C dX9_tightens_205 rfl rfl ?_
          refine g_iadd (pc := 206) C dX9_tightens_206 ?_
          refine g_iaload (pc := 207) C (blk hb 6 rfl) dX9_tightens_207 ?_
          refine g_iastore (pc := 208) C (blk hb 8 rfl) dX9_tightens_208 ?_
          refine g_nms (fun σ8 => ?_)
          refine g_aload_n (pc := 209) (i := 0) C dX9_tightens_209 rfl rfl ?_
          refine g_getr (pc := 210) (ci := 9) (N := 27) (T := TX9) (j := 11) (Cn := RX9) (b + 9) C rfl inlX9 (Nat.le_of_ble_eq_true rfl) q_6_11 (blk hb 0 rfl) rfl dX9_tightens_210 ?_
          refine g_iload (pc := 213) C dX9_tightens_213 rfl ?_
          refine g_iconst (pc := 215) (v := 0) C dX9_tightens_215 (by decide) ?_
          refine g_bastore (pc := 216) C (blk hb 9 rfl) dX9_tightens_216 ?_
          refine g_nms (fun σ9 => ?_)
          refine g_keep [true, false, true, false, false, false, false, false, true] ?_
          exact bX9_tightens_217 C hr b hb ih σ9 l2 l8
def fX9_tightens_130 (b : Nat) (k59 : Sg → Int32 → Int64 → Int64 → Int32 → Int32 → Option (Bool × Sg)) (σ : Sg) (l2 : Int32) (l3 : Int64) (l5 : Int64) (l7 : Int32) (l8 : Int32) : Option (Bool × Sg) :=
  (k59 σ l2 l3 l5 l7 (l8 + 1))
theorem bX9_tightens_130 {X : Xc} {K : Kc} (C : MC X K cX9_tightens 9 RX9 rmX9_tightens) (hr : K.meth.sig.returnType = (some .boolean)) (b : Nat) (hb : moOK b){k59 : Sg → Int32 → Int64 → Int64 → Int32 → Int32 → Option (Bool × Sg)} (hk59 : ∀ (σ : Sg) (l2 : Int32) (l3 : Int64) (l5 : Int64) (l7 : Int32) (l8 : Int32), GO X K 9 (fun r => MQi X K (b2i r.1) r.2) (k59 σ l2 l3 l5 l7 l8) σ 0 0 59 [some (.ref (X.ad b)), none, some (.int (l2)), some (.long (l3)), none, some (.long (l5)), none, some (.int (l7)), some (.int (l8))] []) (σ : Sg) (l2 : Int32) (l3 : Int64) (l5 : Int64) (l7 : Int32) (l8 : Int32) : GO X K 9 (fun r => MQi X K (b2i r.1) r.2) (fX9_tightens_130 b k59 σ l2 l3 l5 l7 l8) σ 0 0 130 [some (.ref (X.ad b)), none, some (.int (l2)), some (.long (l3)), none, some (.long (l5)), none, some (.int (l7)), some (.int (l8))] [] := by
  unfold fX9_tightens_130
  refine g_iinc (pc := 130) (v := l8 + 1) C dX9_tightens_130 rfl (rfl) (Nat.le_of_ble_eq_true rfl) rfl ?_
  refine g_goto (pc := 133) (tgt := 59) C dX9_tightens_133 rfl ?_
  refine g_keep [true, false, true, true, false, true, false, true, true] ?_
  exact hk59 σ l2 l3 l5 l7 (l8 + 1)
def fX9_tightens_128 (b : Nat) (k59 : Sg → Int32 → Int64 → Int64 → Int32 → Int32 → Option (Bool × Sg)) (σ : Sg) (l2 : Int32) (l3 : Int64) (l5 : Int64) (l8 : Int32) (s0 : Int32) : Option (Bool × Sg) :=
  (fX9_tightens_130 b k59 σ l2 l3 l5 s0 l8)
theorem bX9_tightens_128 {X : Xc} {K : Kc} (C : MC X K cX9_tightens 9 RX9 rmX9_tightens) (hr : K.meth.sig.returnType = (some .boolean)) (b : Nat) (hb : moOK b){k59 : Sg → Int32 → Int64 → Int64 → Int32 → Int32 → Option (Bool × Sg)} (hk59 : ∀ (σ : Sg) (l2 : Int32) (l3 : Int64) (l5 : Int64) (l7 : Int32) (l8 : Int32), GO X K 9 (fun r => MQi X K (b2i r.1) r.2) (k59 σ l2 l3 l5 l7 l8) σ 0 0 59 [some (.ref (X.ad b)), none, some (.int (l2)), some (.long (l3)), none, some (.long (l5)), none, some (.int (l7)), some (.int (l8))] []) (σ : Sg) (l2 : Int32) (l3 : Int64) (l5 : Int64) (l8 : Int32) (s0 : Int32) : GO X K 9 (fun r => MQi X K (b2i r.1) r.2) (fX9_tightens_128 b k59 σ l2 l3 l5 l8 s0) σ 0 0 128 [some (.ref (X.ad b)), none, some (.int (l2)), some (.long (l3)), none, some (.long (l5)), none, none, some (.int (l8))] [.int (s0)] := by
  unfold fX9_tightens_128
  refine g_istore (pc := 128) C dX9_tightens_128 (Nat.le_of_ble_eq_true rfl) rfl ?_
  refine g_keep [true, false, true, true, false, true, false, true, true] ?_
  exact bX9_tightens_130 C hr b hb hk59 σ l2 l3 l5 s0 l8
def fX9_tightens_123 (b : Nat) (k59 : Sg → Int32 → Int64 → Int64 → Int32 → Int32 → Option (Bool × Sg)) (σ : Sg) (l2 : Int32) (l3 : Int64) (l5 : Int64) (l8 : Int32) : Option (Bool × Sg) :=
  (fX9_tightens_128 b k59 σ l2 l3 l5 l8 1)
theorem bX9_tightens_123 {X : Xc} {K : Kc} (C : MC X K cX9_tightens 9 RX9 rmX9_tightens) (hr : K.meth.sig.returnType = (some .boolean)) (b : Nat) (hb : moOK b){k59 : Sg → Int32 → Int64 → Int64 → Int32 → Int32 → Option (Bool × Sg)} (hk59 : ∀ (σ : Sg) (l2 : Int32) (l3 : Int64) (l5 : Int64) (l7 : Int32) (l8 : Int32), GO X K 9 (fun r => MQi X K (b2i r.1) r.2) (k59 σ l2 l3 l5 l7 l8) σ 0 0 59 [some (.ref (X.ad b)), none, some (.int (l2)), some (.long (l3)), none, some (.long (l5)), none, some (.int (l7)), some (.int (l8))] []) (σ : Sg) (l2 : Int32) (l3 : Int64) (l5 : Int64) (l8 : Int32) : GO X K 9 (fun r => MQi X K (b2i r.1) r.2) (fX9_tightens_123 b k59 σ l2 l3 l5 l8) σ 0 0 123 [some (.ref (X.ad b)), none, some (.int (l2)), some (.long (l3)), none, some (.long (l5)), none, none, some (.int (l8))] [] := by
  unfold fX9_tightens_123
  refine g_iconst (pc := 123) (v := 1) C dX9_tightens_123 (by decide) ?_
  refine g_goto (pc := 124) (tgt := 128) C dX9_tightens_124 rfl ?_
  refine g_keep [true, false, true, true, false, true, false, false, true] ?_
  exact bX9_tightens_128 C hr b hb hk59 σ l2 l3 l5 l8 1
def fX9_tightens_59 (b : Nat) : Nat → Sg → Int32 → Int64 → Int64 → Int32 → Int32 → Option (Bool × Sg)
  | 0, _, _, _, _, _, _ => none
  | n + 1, σ, l2, l3, l5, l7, l8 =>
    if 24 ≤ l8 then
      if l7 = 0 then
        (fX9_evens σ b l5 l3).bind fun σ5 =>
        some (false, σ5)
      else
        (fX9_tightens_153 b FU σ l2 0)
    else
      if ck l8 24 then
        if (σ.1 (b + 9) l8.toNatClampNeg) = 0 then
          (fX9_tightens_130 b (fX9_tightens_59 b n) σ l2 l3 l5 l7 l8)
        else
          (fX9_its σ b l8 3).bind fun r6 =>
          if l3 = 0 then none else
          if ck l8 24 then
            nm (su σ (b + 8) l8.toNatClampNeg (((l5 * r6.toInt64) / l3).toInt32)) fun σ7 =>
            if l7 = 0 then
              if ck l8 24 then
                if ck ((2 * l8) + l2) 48 then
                  if (σ7.1 (b + 6) ((2 * l8) + l2).toNatClampNeg) ≤ (σ7.1 (b + 8) l8.toNatClampNeg) then
                    (fX9_tightens_128 b (fX9_tightens_59 b n) σ7 l2 l3 l5 l8 0)
                  else
                    (fX9_tightens_123 b (fX9_tightens_59 b n) σ7 l2 l3 l5 l8)
                else none
              else none
            else
              (fX9_tightens_123 b (fX9_tightens_59 b n) σ7 l2 l3 l5 l8)
          else none
      else none
theorem bX9_tightens_59 {X : Xc} {K : Kc} (C : MC X K cX9_tightens 9 RX9 rmX9_tightens) (hr : K.meth.sig.returnType = (some .boolean)) (b : Nat) (hb : moOK b) : ∀ (n : Nat) (σ : Sg) (l2 : Int32) (l3 : Int64) (l5 : Int64) (l7 : Int32) (l8 : Int32), GO X K 9 (fun r => MQi X K (b2i r.1) r.2) (fX9_tightens_59 b n σ l2 l3 l5 l7 l8) σ 0 0 59 [some (.ref (X.ad b)), none, some (.int (l2)), some (.long (l3)), none, some (.long (l5)), none, some (.int (l7)), some (.int (l8))] [] := by
  intro n
  induction n with
  | zero =>
    intro σ l2 l3 l5 l7 l8
    exact g_none
  | succ n ih =>
    intro σ l2 l3 l5 l7 l8
    unfold fX9_tightens_59
    refine g_iload (pc := 59) C dX9_tightens_59 rfl ?_
    refine g_bipush (pc := 61) (v := 24) C dX9_tightens_61 (by decide) ?_
    refine g_icmp_ge (pc := 63) (tgt := 136) C dX9_tightens_63 rfl ?_ ?_
    · refine g_iload (pc := 136) C dX9_tightens_136 rfl ?_
      refine g_if_ne (pc := 138) (tgt := 150) C dX9_tightens_138 rfl ?_ ?_
      · refine g_aload_n (pc := 141) (i := 0) C dX9_tightens_141 rfl rfl ?_
        refine g_lload (pc := 142) C dX9_tightens_142 rfl ?_
        refine g_lload_n (pc := 144) (i := 3) C dX9_tightens_144 rfl rfl ?_
        refine g_callVv (pc := 145) (As := [.long (l5), .long (l3)]) C (kX9_evens X σ b l5 l3 hb) (blk hb 0 rfl) rfl q_28_6 q_28_7 q_28_8 q_1_5 q_28_9 ⟨rfl, hdX9_evens⟩ ⟨Nat.le_of_ble_eq_true rfl, Nat.le_of_ble_eq_true rfl, rfl, rfl⟩ ⟨Nat.zero_le _, Nat.zero_le _⟩ (Nat.le_of_ble_eq_true rfl) rfl rfl dX9_tightens_145 (fun σ5 _ => ?_)
        refine g_iconst (pc := 148) (v := 0) C dX9_tightens_148 (by decide) ?_
        exact g_zret (pc := 149) C hr dX9_tightens_149 rfl
      · refine g_iconst (pc := 150) (v := 0) C dX9_tightens_150 (by decide) ?_
        refine g_istore (pc := 151) C dX9_tightens_151 (Nat.le_of_ble_eq_true rfl) rfl ?_
        refine g_keep [true, false, true, false, false, false, false, false, true] ?_
        exact bX9_tightens_153 C hr b hb FU σ l2 0
    · refine g_aload_n (pc := 66) (i := 0) C dX9_tightens_66 rfl rfl ?_
      refine g_getr (pc := 67) (ci := 9) (N := 27) (T := TX9) (j := 11) (Cn := RX9) (b + 9) C rfl inlX9 (Nat.le_of_ble_eq_true rfl) q_6_11 (blk hb 0 rfl) rfl dX9_tightens_67 ?_
      refine g_iload (pc := 70) C dX9_tightens_70 rfl ?_
      refine g_baload (pc := 72) C (blk hb 9 rfl) dX9_tightens_72 ?_
      refine g_if_eq (pc := 73) (tgt := 130) C dX9_tightens_73 rfl ?_ ?_
      · refine g_keep [true, false, true, true, false, true, false, true, true] ?_
        exact bX9_tightens_130 C hr b hb ih σ l2 l3 l5 l7 l8
      · refine g_aload_n (pc := 76) (i := 0) C dX9_tightens_76 rfl rfl ?_
        refine g_getr (pc := 77) (ci := 9) (N := 27) (T := TX9) (j := 10) (Cn := RX9) (b + 8) C rfl inlX9 (Nat.le_of_ble_eq_true rfl) q_6_10 (blk hb 0 rfl) rfl dX9_tightens_77 ?_
        refine g_iload (pc := 80) C dX9_tightens_80 rfl ?_
        refine g_lload (pc := 82) C dX9_tightens_82 rfl ?_
        refine g_aload_n (pc := 84) (i := 0) C dX9_tightens_84 rfl rfl ?_
        refine g_iload (pc := 85) C dX9_tightens_85 rfl ?_
        refine g_iconst (pc := 87) (v := 3) C dX9_tightens_87 (by decide) ?_
        refine g_callVi (pc := 88) (As := [.int (l8), .int (3)]) C (kX9_its X σ b l8 3 hb) (blk hb 0 rfl) rfl q_20_12 q_20_13 q_20_14 q_1_5 q_20_15 ⟨rfl, hdX9_its⟩ ⟨Nat.le_of_ble_eq_true rfl, Nat.le_of_ble_eq_true rfl, rfl, rfl⟩ ⟨Nat.zero_le _, Nat.zero_le _⟩ (Nat.le_of_ble_eq_true rfl) rfl rfl dX9_tightens_88 (fun r6 _ => ?_)
        refine g_i2l (pc := 91) C dX9_tightens_91 ?_
        refine g_lmul (pc := 92) C dX9_tightens_92 ?_
        refine g_lload_n (pc := 93) (i := 3) C dX9_tightens_93 rfl rfl ?_
        refine g_ldiv (pc := 94) C dX9_tightens_94 ?_
        refine g_l2i (pc := 95) C dX9_tightens_95 ?_
        refine g_iastore (pc := 96) C (blk hb 8 rfl) dX9_tightens_96 ?_
        refine g_nms (fun σ7 => ?_)
        refine g_iload (pc := 97) C dX9_tightens_97 rfl ?_
        refine g_if_ne (pc := 99) (tgt := 123) C dX9_tightens_99 rfl ?_ ?_
        · refine g_aload_n (pc := 102) (i := 0) C dX9_tightens_102 rfl rfl ?_
          refine g_getr (pc := 103) (ci := 9) (N := 27) (T := TX9) (j := 10) (Cn := RX9) (b + 8) C rfl inlX9 (Nat.le_of_ble_eq_true rfl) q_6_10 (blk hb 0 rfl) rfl dX9_tightens_103 ?_
          refine g_iload (pc := 106) C dX9_tightens_106 rfl ?_
          refine g_iaload (pc := 108) C (blk hb 8 rfl) dX9_tightens_108 ?_
          refine g_aload_n (pc := 109) (i := 0) C dX9_tightens_109 rfl rfl ?_
          refine g_getr (pc := 110) (ci := 9) (N := 27) (T := TX9) (j := 8) (Cn := RX9) (b + 6) C rfl inlX9 (Nat.le_of_ble_eq_true rfl) q_6_8 (blk hb 0 rfl) rfl dX9_tightens_110 ?_
          refine g_iconst (pc := 113) (v := 2) C dX9_tightens_113 (by decide) ?_
          refine g_iload (pc := 114) C dX9_tightens_114 rfl ?_
          refine g_imul (pc := 116) C dX9_tightens_116 ?_
          refine g_iload_n (pc := 117) (i := 2) C dX9_tightens_117 rfl rfl ?_
          refine g_iadd (pc := 118) C dX9_tightens_118 ?_
          refine g_iaload (pc := 119) C (blk hb 6 rfl) dX9_tightens_119 ?_
          refine g_icmp_ge (pc := 120) (tgt := 127) C dX9_tightens_120 rfl ?_ ?_
          · refine g_iconst (pc := 127) (v := 0) C dX9_tightens_127 (by decide) ?_
            refine g_keep [true, false, true, true, false, true, false, false, true] ?_
            exact bX9_tightens_128 C hr b hb ih σ7 l2 l3 l5 l8 0
          · refine g_keep [true, false, true, true, false, true, false, false, true] ?_
            exact bX9_tightens_123 C hr b hb ih σ7 l2 l3 l5 l8
        · refine g_keep [true, false, true, true, false, true, false, false, true] ?_
          exact bX9_tightens_123 C hr b hb ih σ7 l2 l3 l5 l8
def fX9_tightens_35 (b : Nat) (k5 : Sg → Int32 → Int32 → Int64 → Int32 → Option (Bool × Sg)) (σ : Sg) (l1 : Int32) (l2 : Int32) (l5 : Int32) (s0 : Int64) (s1 : Int64) : Option (Bool × Sg) :=
  nm (s0 + s1) fun v10 =>
  (k5 σ l1 l2 v10 (l5 + 1))
theorem bX9_tightens_35 {X : Xc} {K : Kc} (C : MC X K cX9_tightens 9 RX9 rmX9_tightens) (hr : K.meth.sig.returnType = (some .boolean)) (b : Nat) (hb : moOK b){k5 : Sg → Int32 → Int32 → Int64 → Int32 → Option (Bool × Sg)} (hk5 : ∀ (σ : Sg) (l1 : Int32) (l2 : Int32) (l3 : Int64) (l5 : Int32), GO X K 9 (fun r => MQi X K (b2i r.1) r.2) (k5 σ l1 l2 l3 l5) σ 0 0 5 [some (.ref (X.ad b)), some (.int (l1)), some (.int (l2)), some (.long (l3)), none, some (.int (l5)), none, none, none] []) (σ : Sg) (l1 : Int32) (l2 : Int32) (l5 : Int32) (s0 : Int64) (s1 : Int64) : GO X K 9 (fun r => MQi X K (b2i r.1) r.2) (fX9_tightens_35 b k5 σ l1 l2 l5 s0 s1) σ 0 0 35 [some (.ref (X.ad b)), some (.int (l1)), some (.int (l2)), none, none, some (.int (l5)), none, none, none] [.long (s1), .long (s0)] := by
  unfold fX9_tightens_35
  refine g_ladd (pc := 35) C dX9_tightens_35 ?_
  refine g_nml (fun v10 => ?_)
  refine g_lstore_n (pc := 36) (i := 3) C dX9_tightens_36 rfl (Nat.le_of_ble_eq_true rfl) rfl ?_
  refine g_iinc (pc := 37) (v := l5 + 1) C dX9_tightens_37 rfl (rfl) (Nat.le_of_ble_eq_true rfl) rfl ?_
  refine g_goto (pc := 40) (tgt := 5) C dX9_tightens_40 rfl ?_
  refine g_keep [true, true, true, true, false, true, false, false, false] ?_
  exact hk5 σ l1 l2 v10 (l5 + 1)
def fX9_tightens_5 (b : Nat) : Nat → Sg → Int32 → Int32 → Int64 → Int32 → Option (Bool × Sg)
  | 0, _, _, _, _, _ => none
  | n + 1, σ, l1, l2, l3, l5 =>
    if 24 ≤ l5 then
      (fX9_closed σ b l2).bind fun r2 =>
      nm ((l1 - r2).toInt64) fun v3 =>
      (fX9_tightens_59 b FU σ l2 l3 v3 0 0)
    else
      if ck l5 24 then
        if (σ.1 (b + 9) l5.toNatClampNeg) = 0 then
          (fX9_tightens_35 b (fX9_tightens_5 b n) σ l1 l2 l5 l3 (0 : Int64))
        else
          (fX9_its σ b l5 3).bind fun r4 =>
          (fX9_tightens_35 b (fX9_tightens_5 b n) σ l1 l2 l5 l3 r4.toInt64)
      else none
theorem bX9_tightens_5 {X : Xc} {K : Kc} (C : MC X K cX9_tightens 9 RX9 rmX9_tightens) (hr : K.meth.sig.returnType = (some .boolean)) (b : Nat) (hb : moOK b) : ∀ (n : Nat) (σ : Sg) (l1 : Int32) (l2 : Int32) (l3 : Int64) (l5 : Int32), GO X K 9 (fun r => MQi X K (b2i r.1) r.2) (fX9_tightens_5 b n σ l1 l2 l3 l5) σ 0 0 5 [some (.ref (X.ad b)), some (.int (l1)), some (.int (l2)), some (.long (l3)), none, some (.int (l5)), none, none, none] [] := by
  intro n
  induction n with
  | zero =>
    intro σ l1 l2 l3 l5
    exact g_none
  | succ n ih =>
    intro σ l1 l2 l3 l5
    unfold fX9_tightens_5
    refine g_iload (pc := 5) C dX9_tightens_5 rfl ?_
    refine g_bipush (pc := 7) (v := 24) C dX9_tightens_7 (by decide) ?_
    refine g_icmp_ge (pc := 9) (tgt := 43) C dX9_tightens_9 rfl ?_ ?_
    · refine g_iload_n (pc := 43) (i := 1) C dX9_tightens_43 rfl rfl ?_
      refine g_aload_n (pc := 44) (i := 0) C dX9_tightens_44 rfl rfl ?_
      refine g_iload_n (pc := 45) (i := 2) C dX9_tightens_45 rfl rfl ?_
      refine g_callVi (pc := 46) (As := [.int (l2)]) C (kX9_closed X σ b l2 hb) (blk hb 0 rfl) rfl q_28_2 q_28_3 q_28_4 q_1_5 q_28_5 ⟨rfl, hdX9_closed⟩ ⟨Nat.le_of_ble_eq_true rfl, Nat.le_of_ble_eq_true rfl, rfl, rfl⟩ ⟨Nat.zero_le _, Nat.zero_le _⟩ (Nat.le_of_ble_eq_true rfl) rfl rfl dX9_tightens_46 (fun r2 _ => ?_)
      refine g_isub (pc := 49) C dX9_tightens_49 ?_
      refine g_i2l (pc := 50) C dX9_tightens_50 ?_
      refine g_nml (fun v3 => ?_)
      refine g_lstore (pc := 51) C dX9_tightens_51 (Nat.le_of_ble_eq_true rfl) rfl ?_
      refine g_iconst (pc := 53) (v := 0) C dX9_tightens_53 (by decide) ?_
      refine g_istore (pc := 54) C dX9_tightens_54 (Nat.le_of_ble_eq_true rfl) rfl ?_
      refine g_iconst (pc := 56) (v := 0) C dX9_tightens_56 (by decide) ?_
      refine g_istore (pc := 57) C dX9_tightens_57 (Nat.le_of_ble_eq_true rfl) rfl ?_
      refine g_keep [true, false, true, true, false, true, false, true, true] ?_
      exact bX9_tightens_59 C hr b hb FU σ l2 l3 v3 0 0
    · refine g_lload_n (pc := 12) (i := 3) C dX9_tightens_12 rfl rfl ?_
      refine g_aload_n (pc := 13) (i := 0) C dX9_tightens_13 rfl rfl ?_
      refine g_getr (pc := 14) (ci := 9) (N := 27) (T := TX9) (j := 11) (Cn := RX9) (b + 9) C rfl inlX9 (Nat.le_of_ble_eq_true rfl) q_6_11 (blk hb 0 rfl) rfl dX9_tightens_14 ?_
      refine g_iload (pc := 17) C dX9_tightens_17 rfl ?_
      refine g_baload (pc := 19) C (blk hb 9 rfl) dX9_tightens_19 ?_
      refine g_if_eq (pc := 20) (tgt := 34) C dX9_tightens_20 rfl ?_ ?_
      · refine g_lconst (pc := 34) (v := 0) C dX9_tightens_34 (by decide) ?_
        refine g_keep [true, true, true, false, false, true, false, false, false] ?_
        exact bX9_tightens_35 C hr b hb ih σ l1 l2 l5 l3 (0 : Int64)
      · refine g_aload_n (pc := 23) (i := 0) C dX9_tightens_23 rfl rfl ?_
        refine g_iload (pc := 24) C dX9_tightens_24 rfl ?_
        refine g_iconst (pc := 26) (v := 3) C dX9_tightens_26 (by decide) ?_
        refine g_callVi (pc := 27) (As := [.int (l5), .int (3)]) C (kX9_its X σ b l5 3 hb) (blk hb 0 rfl) rfl q_20_12 q_20_13 q_20_14 q_1_5 q_20_15 ⟨rfl, hdX9_its⟩ ⟨Nat.le_of_ble_eq_true rfl, Nat.le_of_ble_eq_true rfl, rfl, rfl⟩ ⟨Nat.zero_le _, Nat.zero_le _⟩ (Nat.le_of_ble_eq_true rfl) rfl rfl dX9_tightens_27 (fun r4 _ => ?_)
        refine g_i2l (pc := 30) C dX9_tightens_30 ?_
        refine g_goto (pc := 31) (tgt := 35) C dX9_tightens_31 rfl ?_
        refine g_keep [true, true, true, false, false, true, false, false, false] ?_
        exact bX9_tightens_35 C hr b hb ih σ l1 l2 l5 l3 r4.toInt64
def fX9_tightens (σ : Sg) (b : Nat) (p1 : Int32) (p2 : Int32) : Option (Bool × Sg) :=
  nm ((0 : Int64)) fun v1 =>
  (fX9_tightens_5 b FU σ p1 p2 v1 0)
theorem kX9_tightens (X : Xc) (σ : Sg) (b : Nat) (p1 : Int32) (p2 : Int32) (hb : moOK b) : ∀ r, fX9_tightens σ b p1 p2 = some r → Met X.l yX9_tightens (wsM yX9_tightens cX9_tightens 9 (some .boolean)) rmX9_tightens (va_Pc [.ref (X.ad b), .int p1, .int p2] (PW X σ)) (Qi X (b2i r.1) r.2) 0 0 X.A := by
  refine mt_of (own := RX9) (lo := [some (.ref (X.ad b)), some (.int (p1)), some (.int (p2)), none, none, none, none, none, none]) (by decide) rfl (Nat.le_of_ble_eq_true rfl) rfl (fun K C hr => ?_)
  unfold fX9_tightens
  refine g_lconst (pc := 0) (v := 0) C dX9_tightens_0 (by decide) ?_
  refine g_nml (fun v1 => ?_)
  refine g_lstore_n (pc := 1) (i := 3) C dX9_tightens_1 rfl (Nat.le_of_ble_eq_true rfl) rfl ?_
  refine g_iconst (pc := 2) (v := 0) C dX9_tightens_2 (by decide) ?_
  refine g_istore (pc := 3) C dX9_tightens_3 (Nat.le_of_ble_eq_true rfl) rfl ?_
  refine g_keep [true, true, true, true, false, true, false, false, false] ?_
  exact bX9_tightens_5 C hr b hb FU σ p1 p2 v1 0
theorem dX9_laysShares_0 : decode cX9_laysShares 0 = .ok (.aload_n 0, 1) := by decide +kernel
theorem dX9_laysShares_1 : decode cX9_laysShares 1 = .ok (.iload_n 1, 1) := by decide +kernel
theorem dX9_laysShares_2 : decode cX9_laysShares 2 = .ok (.iconst 2, 1) := by decide +kernel
theorem dX9_laysShares_3 : decode cX9_laysShares 3 = .ok (.invokevirtual 76, 3) := by decide +kernel
theorem dX9_laysShares_6 : decode cX9_laysShares 6 = .ok (.istore_n 3, 1) := by decide +kernel
theorem dX9_laysShares_7 : decode cX9_laysShares 7 = .ok (.iconst 0, 1) := by decide +kernel
theorem dX9_laysShares_8 : decode cX9_laysShares 8 = .ok (.istore 4, 2) := by decide +kernel
theorem dX9_laysShares_10 : decode cX9_laysShares 10 = .ok (.iconst 0, 1) := by decide +kernel
theorem dX9_laysShares_11 : decode cX9_laysShares 11 = .ok (.istore 5, 2) := by decide +kernel
theorem dX9_laysShares_13 : decode cX9_laysShares 13 = .ok (.iconst 0, 1) := by decide +kernel
theorem dX9_laysShares_14 : decode cX9_laysShares 14 = .ok (.istore 6, 2) := by decide +kernel
theorem dX9_laysShares_16 : decode cX9_laysShares 16 = .ok (.iload 6, 2) := by decide +kernel
theorem dX9_laysShares_18 : decode cX9_laysShares 18 = .ok (.bipush 24, 2) := by decide +kernel
theorem dX9_laysShares_20 : decode cX9_laysShares 20 = .ok (.if_icmp .ge 91, 3) := by decide +kernel
theorem dX9_laysShares_23 : decode cX9_laysShares 23 = .ok (.aload_n 0, 1) := by decide +kernel
theorem dX9_laysShares_24 : decode cX9_laysShares 24 = .ok (.getfield 35, 3) := by decide +kernel
theorem dX9_laysShares_27 : decode cX9_laysShares 27 = .ok (.iload 6, 2) := by decide +kernel
theorem dX9_laysShares_29 : decode cX9_laysShares 29 = .ok (.aload_n 0, 1) := by decide +kernel
theorem dX9_laysShares_30 : decode cX9_laysShares 30 = .ok (.iload 6, 2) := by decide +kernel
theorem dX9_laysShares_32 : decode cX9_laysShares 32 = .ok (.iload_n 1, 1) := by decide +kernel
theorem dX9_laysShares_33 : decode cX9_laysShares 33 = .ok (.invokevirtual 83, 3) := by decide +kernel
theorem dX9_laysShares_36 : decode cX9_laysShares 36 = .ok (.ifCond .eq 17, 3) := by decide +kernel
theorem dX9_laysShares_39 : decode cX9_laysShares 39 = .ok (.aload_n 0, 1) := by decide +kernel
theorem dX9_laysShares_40 : decode cX9_laysShares 40 = .ok (.getfield 22, 3) := by decide +kernel
theorem dX9_laysShares_43 : decode cX9_laysShares 43 = .ok (.iload 6, 2) := by decide +kernel
theorem dX9_laysShares_45 : decode cX9_laysShares 45 = .ok (.baload, 1) := by decide +kernel
theorem dX9_laysShares_46 : decode cX9_laysShares 46 = .ok (.ifCond .eq 7, 3) := by decide +kernel
theorem dX9_laysShares_49 : decode cX9_laysShares 49 = .ok (.iconst 1, 1) := by decide +kernel
theorem dX9_laysShares_50 : decode cX9_laysShares 50 = .ok (.goto 4, 3) := by decide +kernel
theorem dX9_laysShares_53 : decode cX9_laysShares 53 = .ok (.iconst 0, 1) := by decide +kernel
theorem dX9_laysShares_54 : decode cX9_laysShares 54 = .ok (.bastore, 1) := by decide +kernel
theorem dX9_laysShares_55 : decode cX9_laysShares 55 = .ok (.iload 4, 2) := by decide +kernel
theorem dX9_laysShares_57 : decode cX9_laysShares 57 = .ok (.aload_n 0, 1) := by decide +kernel
theorem dX9_laysShares_58 : decode cX9_laysShares 58 = .ok (.getfield 35, 3) := by decide +kernel
theorem dX9_laysShares_61 : decode cX9_laysShares 61 = .ok (.iload 6, 2) := by decide +kernel
theorem dX9_laysShares_63 : decode cX9_laysShares 63 = .ok (.baload, 1) := by decide +kernel
theorem dX9_laysShares_64 : decode cX9_laysShares 64 = .ok (.ifCond .eq 7, 3) := by decide +kernel
theorem dX9_laysShares_67 : decode cX9_laysShares 67 = .ok (.iconst 1, 1) := by decide +kernel
theorem dX9_laysShares_68 : decode cX9_laysShares 68 = .ok (.goto 4, 3) := by decide +kernel
theorem dX9_laysShares_71 : decode cX9_laysShares 71 = .ok (.iconst 0, 1) := by decide +kernel
theorem dX9_laysShares_72 : decode cX9_laysShares 72 = .ok (.iadd, 1) := by decide +kernel
theorem dX9_laysShares_73 : decode cX9_laysShares 73 = .ok (.istore 4, 2) := by decide +kernel
theorem dX9_laysShares_75 : decode cX9_laysShares 75 = .ok (.iload 5, 2) := by decide +kernel
theorem dX9_laysShares_77 : decode cX9_laysShares 77 = .ok (.aload_n 0, 1) := by decide +kernel
theorem dX9_laysShares_78 : decode cX9_laysShares 78 = .ok (.getfield 35, 3) := by decide +kernel
theorem dX9_laysShares_81 : decode cX9_laysShares 81 = .ok (.iload 6, 2) := by decide +kernel
theorem dX9_laysShares_83 : decode cX9_laysShares 83 = .ok (.baload, 1) := by decide +kernel
theorem dX9_laysShares_84 : decode cX9_laysShares 84 = .ok (.ifCond .eq 17, 3) := by decide +kernel
theorem dX9_laysShares_87 : decode cX9_laysShares 87 = .ok (.aload_n 0, 1) := by decide +kernel
theorem dX9_laysShares_88 : decode cX9_laysShares 88 = .ok (.getfield 26, 3) := by decide +kernel
theorem dX9_laysShares_91 : decode cX9_laysShares 91 = .ok (.iconst 2, 1) := by decide +kernel
theorem dX9_laysShares_92 : decode cX9_laysShares 92 = .ok (.iload 6, 2) := by decide +kernel
theorem dX9_laysShares_94 : decode cX9_laysShares 94 = .ok (.imul, 1) := by decide +kernel
theorem dX9_laysShares_95 : decode cX9_laysShares 95 = .ok (.iload_n 3, 1) := by decide +kernel
theorem dX9_laysShares_96 : decode cX9_laysShares 96 = .ok (.iadd, 1) := by decide +kernel
theorem dX9_laysShares_97 : decode cX9_laysShares 97 = .ok (.iaload, 1) := by decide +kernel
theorem dX9_laysShares_98 : decode cX9_laysShares 98 = .ok (.goto 4, 3) := by decide +kernel
theorem dX9_laysShares_101 : decode cX9_laysShares 101 = .ok (.iconst 0, 1) := by decide +kernel
theorem dX9_laysShares_102 : decode cX9_laysShares 102 = .ok (.iadd, 1) := by decide +kernel
theorem dX9_laysShares_103 : decode cX9_laysShares 103 = .ok (.istore 5, 2) := by decide +kernel
theorem dX9_laysShares_105 : decode cX9_laysShares 105 = .ok (.iinc 6 1, 3) := by decide +kernel
theorem dX9_laysShares_108 : decode cX9_laysShares 108 = .ok (.goto (-92), 3) := by decide +kernel
theorem dX9_laysShares_111 : decode cX9_laysShares 111 = .ok (.iload_n 2, 1) := by decide +kernel
theorem dX9_laysShares_112 : decode cX9_laysShares 112 = .ok (.iload 4, 2) := by decide +kernel
theorem dX9_laysShares_114 : decode cX9_laysShares 114 = .ok (.iconst 1, 1) := by decide +kernel
theorem dX9_laysShares_115 : decode cX9_laysShares 115 = .ok (.isub, 1) := by decide +kernel
theorem dX9_laysShares_116 : decode cX9_laysShares 116 = .ok (.isub, 1) := by decide +kernel
theorem dX9_laysShares_117 : decode cX9_laysShares 117 = .ok (.ifCond .le 12, 3) := by decide +kernel
theorem dX9_laysShares_120 : decode cX9_laysShares 120 = .ok (.iload_n 2, 1) := by decide +kernel
theorem dX9_laysShares_121 : decode cX9_laysShares 121 = .ok (.iload 4, 2) := by decide +kernel
theorem dX9_laysShares_123 : decode cX9_laysShares 123 = .ok (.iconst 1, 1) := by decide +kernel
theorem dX9_laysShares_124 : decode cX9_laysShares 124 = .ok (.isub, 1) := by decide +kernel
theorem dX9_laysShares_125 : decode cX9_laysShares 125 = .ok (.isub, 1) := by decide +kernel
theorem dX9_laysShares_126 : decode cX9_laysShares 126 = .ok (.goto 4, 3) := by decide +kernel
theorem dX9_laysShares_129 : decode cX9_laysShares 129 = .ok (.iconst 0, 1) := by decide +kernel
theorem dX9_laysShares_130 : decode cX9_laysShares 130 = .ok (.istore 6, 2) := by decide +kernel
theorem dX9_laysShares_132 : decode cX9_laysShares 132 = .ok (.iload 5, 2) := by decide +kernel
theorem dX9_laysShares_134 : decode cX9_laysShares 134 = .ok (.iload 6, 2) := by decide +kernel
theorem dX9_laysShares_136 : decode cX9_laysShares 136 = .ok (.if_icmp .lt 97, 3) := by decide +kernel
theorem dX9_laysShares_139 : decode cX9_laysShares 139 = .ok (.iload 6, 2) := by decide +kernel
theorem dX9_laysShares_141 : decode cX9_laysShares 141 = .ok (.istore 7, 2) := by decide +kernel
theorem dX9_laysShares_143 : decode cX9_laysShares 143 = .ok (.iconst 0, 1) := by decide +kernel
theorem dX9_laysShares_144 : decode cX9_laysShares 144 = .ok (.istore 8, 2) := by decide +kernel
theorem dX9_laysShares_146 : decode cX9_laysShares 146 = .ok (.iload 8, 2) := by decide +kernel
theorem dX9_laysShares_148 : decode cX9_laysShares 148 = .ok (.aload_n 0, 1) := by decide +kernel
theorem dX9_laysShares_149 : decode cX9_laysShares 149 = .ok (.iload_n 1, 1) := by decide +kernel
theorem dX9_laysShares_150 : decode cX9_laysShares 150 = .ok (.invokevirtual 113, 3) := by decide +kernel
theorem dX9_laysShares_153 : decode cX9_laysShares 153 = .ok (.if_icmp .ge 79, 3) := by decide +kernel
theorem dX9_laysShares_156 : decode cX9_laysShares 156 = .ok (.aload_n 0, 1) := by decide +kernel
theorem dX9_laysShares_157 : decode cX9_laysShares 157 = .ok (.iload_n 1, 1) := by decide +kernel
theorem dX9_laysShares_158 : decode cX9_laysShares 158 = .ok (.iload 8, 2) := by decide +kernel
theorem dX9_laysShares_160 : decode cX9_laysShares 160 = .ok (.invokevirtual 116, 3) := by decide +kernel
theorem dX9_laysShares_163 : decode cX9_laysShares 163 = .ok (.istore 9, 2) := by decide +kernel
theorem dX9_laysShares_165 : decode cX9_laysShares 165 = .ok (.aload_n 0, 1) := by decide +kernel
theorem dX9_laysShares_166 : decode cX9_laysShares 166 = .ok (.getfield 22, 3) := by decide +kernel
theorem dX9_laysShares_169 : decode cX9_laysShares 169 = .ok (.iload 9, 2) := by decide +kernel
theorem dX9_laysShares_171 : decode cX9_laysShares 171 = .ok (.baload, 1) := by decide +kernel
theorem dX9_laysShares_172 : decode cX9_laysShares 172 = .ok (.ifCond .eq 54, 3) := by decide +kernel
theorem dX9_laysShares_175 : decode cX9_laysShares 175 = .ok (.aload_n 0, 1) := by decide +kernel
theorem dX9_laysShares_176 : decode cX9_laysShares 176 = .ok (.getfield 32, 3) := by decide +kernel
theorem dX9_laysShares_179 : decode cX9_laysShares 179 = .ok (.iload 9, 2) := by decide +kernel
theorem dX9_laysShares_181 : decode cX9_laysShares 181 = .ok (.aload_n 0, 1) := by decide +kernel
theorem dX9_laysShares_182 : decode cX9_laysShares 182 = .ok (.getfield 26, 3) := by decide +kernel
theorem dX9_laysShares_185 : decode cX9_laysShares 185 = .ok (.iconst 2, 1) := by decide +kernel
theorem dX9_laysShares_186 : decode cX9_laysShares 186 = .ok (.iload 9, 2) := by decide +kernel
theorem dX9_laysShares_188 : decode cX9_laysShares 188 = .ok (.imul, 1) := by decide +kernel
theorem dX9_laysShares_189 : decode cX9_laysShares 189 = .ok (.iload_n 3, 1) := by decide +kernel
theorem dX9_laysShares_190 : decode cX9_laysShares 190 = .ok (.iadd, 1) := by decide +kernel
theorem dX9_laysShares_191 : decode cX9_laysShares 191 = .ok (.iaload, 1) := by decide +kernel
theorem dX9_laysShares_192 : decode cX9_laysShares 192 = .ok (.iload 7, 2) := by decide +kernel
theorem dX9_laysShares_194 : decode cX9_laysShares 194 = .ok (.if_icmp .ge 17, 3) := by decide +kernel
theorem dX9_laysShares_197 : decode cX9_laysShares 197 = .ok (.aload_n 0, 1) := by decide +kernel
theorem dX9_laysShares_198 : decode cX9_laysShares 198 = .ok (.getfield 26, 3) := by decide +kernel
theorem dX9_laysShares_201 : decode cX9_laysShares 201 = .ok (.iconst 2, 1) := by decide +kernel
theorem dX9_laysShares_202 : decode cX9_laysShares 202 = .ok (.iload 9, 2) := by decide +kernel
theorem dX9_laysShares_204 : decode cX9_laysShares 204 = .ok (.imul, 1) := by decide +kernel
theorem dX9_laysShares_205 : decode cX9_laysShares 205 = .ok (.iload_n 3, 1) := by decide +kernel
theorem dX9_laysShares_206 : decode cX9_laysShares 206 = .ok (.iadd, 1) := by decide +kernel
theorem dX9_laysShares_207 : decode cX9_laysShares 207 = .ok (.iaload, 1) := by decide +kernel
theorem dX9_laysShares_208 : decode cX9_laysShares 208 = .ok (.goto 5, 3) := by decide +kernel
theorem dX9_laysShares_211 : decode cX9_laysShares 211 = .ok (.iload 7, 2) := by decide +kernel
theorem dX9_laysShares_213 : decode cX9_laysShares 213 = .ok (.iastore, 1) := by decide +kernel
theorem dX9_laysShares_214 : decode cX9_laysShares 214 = .ok (.iload 7, 2) := by decide +kernel
theorem dX9_laysShares_216 : decode cX9_laysShares 216 = .ok (.aload_n 0, 1) := by decide +kernel
theorem dX9_laysShares_217 : decode cX9_laysShares 217 = .ok (.getfield 32, 3) := by decide +kernel
theorem dX9_laysShares_220 : decode cX9_laysShares 220 = .ok (.iload 9, 2) := by decide +kernel
theorem dX9_laysShares_222 : decode cX9_laysShares 222 = .ok (.iaload, 1) := by decide +kernel
theorem dX9_laysShares_223 : decode cX9_laysShares 223 = .ok (.isub, 1) := by decide +kernel
theorem dX9_laysShares_224 : decode cX9_laysShares 224 = .ok (.istore 7, 2) := by decide +kernel
theorem dX9_laysShares_226 : decode cX9_laysShares 226 = .ok (.iinc 8 1, 3) := by decide +kernel
theorem dX9_laysShares_229 : decode cX9_laysShares 229 = .ok (.goto (-83), 3) := by decide +kernel
theorem dX9_laysShares_232 : decode cX9_laysShares 232 = .ok (.return_, 1) := by decide +kernel
theorem dX9_laysShares_233 : decode cX9_laysShares 233 = .ok (.iconst 1, 1) := by decide +kernel
theorem dX9_laysShares_234 : decode cX9_laysShares 234 = .ok (.istore 7, 2) := by decide +kernel
theorem dX9_laysShares_236 : decode cX9_laysShares 236 = .ok (.iload 7, 2) := by decide +kernel
theorem dX9_laysShares_238 : decode cX9_laysShares 238 = .ok (.ifCond .eq 15, 3) := by decide +kernel
theorem dX9_laysShares_241 : decode cX9_laysShares 241 = .ok (.aload_n 0, 1) := by decide +kernel
theorem dX9_laysShares_242 : decode cX9_laysShares 242 = .ok (.iload 6, 2) := by decide +kernel
theorem dX9_laysShares_244 : decode cX9_laysShares 244 = .ok (.iload_n 3, 1) := by decide +kernel
theorem dX9_laysShares_245 : decode cX9_laysShares 245 = .ok (.invokevirtual 163, 3) := by decide +kernel
theorem dX9_laysShares_248 : decode cX9_laysShares 248 = .ok (.istore 7, 2) := by decide +kernel
theorem dX9_laysShares_250 : decode cX9_laysShares 250 = .ok (.goto (-14), 3) := by decide +kernel
theorem dX9_laysShares_253 : decode cX9_laysShares 253 = .ok (.return_, 1) := by decide +kernel
abbrev rmX9_laysShares : Room := { frames := 5, cells := 0, slots := 0, locals := 128 }
theorem hdX9_laysShares : yX9_laysShares.cls ≠ "java/lang/invoke/MethodHandle" ∧ yX9_laysShares.cls ≠ "java/lang/invoke/VarHandle" ∧ (parseMethodDescriptor yX9_laysShares.desc).map (fun d => d.parameters.length) = some 2 := by decide +kernel
def fX9_laysShares_236 (b : Nat) : Nat → Sg → Int32 → Int32 → Int32 → Option Sg
  | 0, _, _, _, _ => none
  | n + 1, σ, l3, l6, l7 =>
    if l7 = 0 then
      some σ
    else
      (fX9_tightens σ b l6 l3).bind fun r3 =>
      ((fX9_laysShares_236 b n) r3.2 l3 l6 (b2i r3.1))
theorem bX9_laysShares_236 {X : Xc} {K : Kc} (C : MC X K cX9_laysShares 10 RX9 rmX9_laysShares) (hr : K.meth.sig.returnType = none) (b : Nat) (hb : moOK b) : ∀ (n : Nat) (σ : Sg) (l3 : Int32) (l6 : Int32) (l7 : Int32), GO X K 10 (fun r => MQv X K r) (fX9_laysShares_236 b n σ l3 l6 l7) σ 0 0 236 [some (.ref (X.ad b)), none, none, some (.int (l3)), none, none, some (.int (l6)), some (.int (l7)), none, none] [] := by
  intro n
  induction n with
  | zero =>
    intro σ l3 l6 l7
    exact g_none
  | succ n ih =>
    intro σ l3 l6 l7
    unfold fX9_laysShares_236
    refine g_iload (pc := 236) C dX9_laysShares_236 rfl ?_
    refine g_if_eq (pc := 238) (tgt := 253) C dX9_laysShares_238 rfl ?_ ?_
    · exact g_vret (pc := 253) C hr dX9_laysShares_253 rfl
    · refine g_aload_n (pc := 241) (i := 0) C dX9_laysShares_241 rfl rfl ?_
      refine g_iload (pc := 242) C dX9_laysShares_242 rfl ?_
      refine g_iload_n (pc := 244) (i := 3) C dX9_laysShares_244 rfl rfl ?_
      refine g_callVi (pc := 245) (As := [.int (l6), .int (l3)]) C (kX9_tightens X σ b l6 l3 hb) (blk hb 0 rfl) rfl q_27_22 q_27_23 q_28_0 q_1_5 q_28_1 ⟨rfl, hdX9_tightens⟩ ⟨Nat.le_of_ble_eq_true rfl, Nat.le_of_ble_eq_true rfl, rfl, rfl⟩ ⟨Nat.zero_le _, Nat.zero_le _⟩ (Nat.le_of_ble_eq_true rfl) rfl rfl dX9_laysShares_245 (fun r3 _ => ?_)
      refine g_istore (pc := 248) C dX9_laysShares_248 (Nat.le_of_ble_eq_true rfl) rfl ?_
      refine g_goto (pc := 250) (tgt := 236) C dX9_laysShares_250 rfl ?_
      refine g_keep [true, false, false, true, false, false, true, true, false, false] ?_
      exact ih r3.2 l3 l6 (b2i r3.1)
def fX9_laysShares_226 (b : Nat) (k146 : Sg → Int32 → Int32 → Int32 → Int32 → Option Sg) (σ : Sg) (l1 : Int32) (l3 : Int32) (l7 : Int32) (l8 : Int32) : Option Sg :=
  (k146 σ l1 l3 l7 (l8 + 1))
theorem bX9_laysShares_226 {X : Xc} {K : Kc} (C : MC X K cX9_laysShares 10 RX9 rmX9_laysShares) (hr : K.meth.sig.returnType = none) (b : Nat) (hb : moOK b){k146 : Sg → Int32 → Int32 → Int32 → Int32 → Option Sg} (hk146 : ∀ (σ : Sg) (l1 : Int32) (l3 : Int32) (l7 : Int32) (l8 : Int32), GO X K 10 (fun r => MQv X K r) (k146 σ l1 l3 l7 l8) σ 0 0 146 [some (.ref (X.ad b)), some (.int (l1)), none, some (.int (l3)), none, none, none, some (.int (l7)), some (.int (l8)), none] []) (σ : Sg) (l1 : Int32) (l3 : Int32) (l7 : Int32) (l8 : Int32) : GO X K 10 (fun r => MQv X K r) (fX9_laysShares_226 b k146 σ l1 l3 l7 l8) σ 0 0 226 [some (.ref (X.ad b)), some (.int (l1)), none, some (.int (l3)), none, none, none, some (.int (l7)), some (.int (l8)), none] [] := by
  unfold fX9_laysShares_226
  refine g_iinc (pc := 226) (v := l8 + 1) C dX9_laysShares_226 rfl (rfl) (Nat.le_of_ble_eq_true rfl) rfl ?_
  refine g_goto (pc := 229) (tgt := 146) C dX9_laysShares_229 rfl ?_
  refine g_keep [true, true, false, true, false, false, false, true, true, false] ?_
  exact hk146 σ l1 l3 l7 (l8 + 1)
def fX9_laysShares_213 (b : Nat) (k146 : Sg → Int32 → Int32 → Int32 → Int32 → Option Sg) (σ : Sg) (l1 : Int32) (l3 : Int32) (l7 : Int32) (l8 : Int32) (l9 : Int32) (s1 : Int32) (s2 : Int32) : Option Sg :=
  if ck s1 24 then
    nm (su σ (b + 8) s1.toNatClampNeg s2) fun σ6 =>
    if ck l9 24 then
      nm (l7 - (σ6.1 (b + 8) l9.toNatClampNeg)) fun v7 =>
      (fX9_laysShares_226 b k146 σ6 l1 l3 v7 l8)
    else none
  else none
theorem bX9_laysShares_213 {X : Xc} {K : Kc} (C : MC X K cX9_laysShares 10 RX9 rmX9_laysShares) (hr : K.meth.sig.returnType = none) (b : Nat) (hb : moOK b){k146 : Sg → Int32 → Int32 → Int32 → Int32 → Option Sg} (hk146 : ∀ (σ : Sg) (l1 : Int32) (l3 : Int32) (l7 : Int32) (l8 : Int32), GO X K 10 (fun r => MQv X K r) (k146 σ l1 l3 l7 l8) σ 0 0 146 [some (.ref (X.ad b)), some (.int (l1)), none, some (.int (l3)), none, none, none, some (.int (l7)), some (.int (l8)), none] []) (σ : Sg) (l1 : Int32) (l3 : Int32) (l7 : Int32) (l8 : Int32) (l9 : Int32) (s1 : Int32) (s2 : Int32) : GO X K 10 (fun r => MQv X K r) (fX9_laysShares_213 b k146 σ l1 l3 l7 l8 l9 s1 s2) σ 0 0 213 [some (.ref (X.ad b)), some (.int (l1)), none, some (.int (l3)), none, none, none, some (.int (l7)), some (.int (l8)), some (.int (l9))] [.int (s2), .int (s1), .ref (X.ad (b + 8))] := by
  unfold fX9_laysShares_213
  refine g_iastore (pc := 213) C (blk hb 8 rfl) dX9_laysShares_213 ?_
  refine g_nms (fun σ6 => ?_)
  refine g_iload (pc := 214) C dX9_laysShares_214 rfl ?_
  refine g_aload_n (pc := 216) (i := 0) C dX9_laysShares_216 rfl rfl ?_
  refine g_getr (pc := 217) (ci := 9) (N := 27) (T := TX9) (j := 10) (Cn := RX9) (b + 8) C rfl inlX9 (Nat.le_of_ble_eq_true rfl) q_6_10 (blk hb 0 rfl) rfl dX9_laysShares_217 ?_
  refine g_iload (pc := 220) C dX9_laysShares_220 rfl ?_
  refine g_iaload (pc := 222) C (blk hb 8 rfl) dX9_laysShares_222 ?_
  refine g_isub (pc := 223) C dX9_laysShares_223 ?_
  refine g_nm (fun v7 => ?_)
  refine g_istore (pc := 224) C dX9_laysShares_224 (Nat.le_of_ble_eq_true rfl) rfl ?_
  refine g_keep [true, true, false, true, false, false, false, true, true, false] ?_
  exact bX9_laysShares_226 C hr b hb hk146 σ6 l1 l3 v7 l8
def fX9_laysShares_146 (b : Nat) : Nat → Sg → Int32 → Int32 → Int32 → Int32 → Option Sg
  | 0, _, _, _, _, _ => none
  | n + 1, σ, l1, l3, l7, l8 =>
    (fX9_childMany σ b l1).bind fun r4 =>
    if r4 ≤ l8 then
      some σ
    else
      (fX9_child σ b l1 l8).bind fun r5 =>
      if ck r5 24 then
        if (σ.1 (b + 5) r5.toNatClampNeg) = 0 then
          (fX9_laysShares_226 b (fX9_laysShares_146 b n) σ l1 l3 l7 l8)
        else
          if ck ((2 * r5) + l3) 48 then
            if l7 ≤ (σ.1 (b + 6) ((2 * r5) + l3).toNatClampNeg) then
              (fX9_laysShares_213 b (fX9_laysShares_146 b n) σ l1 l3 l7 l8 r5 r5 l7)
            else
              if ck ((2 * r5) + l3) 48 then
                (fX9_laysShares_213 b (fX9_laysShares_146 b n) σ l1 l3 l7 l8 r5 r5 (σ.1 (b + 6) ((2 * r5) + l3).toNatClampNeg))
              else none
          else none
      else none
theorem bX9_laysShares_146 {X : Xc} {K : Kc} (C : MC X K cX9_laysShares 10 RX9 rmX9_laysShares) (hr : K.meth.sig.returnType = none) (b : Nat) (hb : moOK b) : ∀ (n : Nat) (σ : Sg) (l1 : Int32) (l3 : Int32) (l7 : Int32) (l8 : Int32), GO X K 10 (fun r => MQv X K r) (fX9_laysShares_146 b n σ l1 l3 l7 l8) σ 0 0 146 [some (.ref (X.ad b)), some (.int (l1)), none, some (.int (l3)), none, none, none, some (.int (l7)), some (.int (l8)), none] [] := by
  intro n
  induction n with
  | zero =>
    intro σ l1 l3 l7 l8
    exact g_none
  | succ n ih =>
    intro σ l1 l3 l7 l8
    unfold fX9_laysShares_146
    refine g_iload (pc := 146) C dX9_laysShares_146 rfl ?_
    refine g_aload_n (pc := 148) (i := 0) C dX9_laysShares_148 rfl rfl ?_
    refine g_iload_n (pc := 149) (i := 1) C dX9_laysShares_149 rfl rfl ?_
    refine g_callVi (pc := 150) (As := [.int (l1)]) C (kX9_childMany X σ b l1 hb) (blk hb 0 rfl) rfl q_21_16 q_21_17 q_21_18 q_1_5 q_21_19 ⟨rfl, hdX9_childMany⟩ ⟨Nat.le_of_ble_eq_true rfl, Nat.le_of_ble_eq_true rfl, rfl, rfl⟩ ⟨Nat.zero_le _, Nat.zero_le _⟩ (Nat.le_of_ble_eq_true rfl) rfl rfl dX9_laysShares_150 (fun r4 _ => ?_)
    refine g_icmp_ge (pc := 153) (tgt := 232) C dX9_laysShares_153 rfl ?_ ?_
    · exact g_vret (pc := 232) C hr dX9_laysShares_232 rfl
    · refine g_aload_n (pc := 156) (i := 0) C dX9_laysShares_156 rfl rfl ?_
      refine g_iload_n (pc := 157) (i := 1) C dX9_laysShares_157 rfl rfl ?_
      refine g_iload (pc := 158) C dX9_laysShares_158 rfl ?_
      refine g_callVi (pc := 160) (As := [.int (l1), .int (l8)]) C (kX9_child X σ b l1 l8 hb) (blk hb 0 rfl) rfl q_21_20 q_21_21 q_21_22 q_1_5 q_21_23 ⟨rfl, hdX9_child⟩ ⟨Nat.le_of_ble_eq_true rfl, Nat.le_of_ble_eq_true rfl, rfl, rfl⟩ ⟨Nat.zero_le _, Nat.zero_le _⟩ (Nat.le_of_ble_eq_true rfl) rfl rfl dX9_laysShares_160 (fun r5 _ => ?_)
      refine g_istore (pc := 163) C dX9_laysShares_163 (Nat.le_of_ble_eq_true rfl) rfl ?_
      refine g_aload_n (pc := 165) (i := 0) C dX9_laysShares_165 rfl rfl ?_
      refine g_getr (pc := 166) (ci := 9) (N := 27) (T := TX9) (j := 7) (Cn := RX9) (b + 5) C rfl inlX9 (Nat.le_of_ble_eq_true rfl) q_6_7 (blk hb 0 rfl) rfl dX9_laysShares_166 ?_
      refine g_iload (pc := 169) C dX9_laysShares_169 rfl ?_
      refine g_baload (pc := 171) C (blk hb 5 rfl) dX9_laysShares_171 ?_
      refine g_if_eq (pc := 172) (tgt := 226) C dX9_laysShares_172 rfl ?_ ?_
      · refine g_keep [true, true, false, true, false, false, false, true, true, false] ?_
        exact bX9_laysShares_226 C hr b hb ih σ l1 l3 l7 l8
      · refine g_aload_n (pc := 175) (i := 0) C dX9_laysShares_175 rfl rfl ?_
        refine g_getr (pc := 176) (ci := 9) (N := 27) (T := TX9) (j := 10) (Cn := RX9) (b + 8) C rfl inlX9 (Nat.le_of_ble_eq_true rfl) q_6_10 (blk hb 0 rfl) rfl dX9_laysShares_176 ?_
        refine g_iload (pc := 179) C dX9_laysShares_179 rfl ?_
        refine g_aload_n (pc := 181) (i := 0) C dX9_laysShares_181 rfl rfl ?_
        refine g_getr (pc := 182) (ci := 9) (N := 27) (T := TX9) (j := 8) (Cn := RX9) (b + 6) C rfl inlX9 (Nat.le_of_ble_eq_true rfl) q_6_8 (blk hb 0 rfl) rfl dX9_laysShares_182 ?_
        refine g_iconst (pc := 185) (v := 2) C dX9_laysShares_185 (by decide) ?_
        refine g_iload (pc := 186) C dX9_laysShares_186 rfl ?_
        refine g_imul (pc := 188) C dX9_laysShares_188 ?_
        refine g_iload_n (pc := 189) (i := 3) C dX9_laysShares_189 rfl rfl ?_
        refine g_iadd (pc := 190) C dX9_laysShares_190 ?_
        refine g_iaload (pc := 191) C (blk hb 6 rfl) dX9_laysShares_191 ?_
        refine g_iload (pc := 192) C dX9_laysShares_192 rfl ?_
        refine g_icmp_ge (pc := 194) (tgt := 211) C dX9_laysShares_194 rfl ?_ ?_
        · refine g_iload (pc := 211) C dX9_laysShares_211 rfl ?_
          refine g_keep [true, true, false, true, false, false, false, true, true, true] ?_
          exact bX9_laysShares_213 C hr b hb ih σ l1 l3 l7 l8 r5 r5 l7
        · refine g_aload_n (pc := 197) (i := 0) C dX9_laysShares_197 rfl rfl ?_
          refine g_getr (pc := 198) (ci := 9) (N := 27) (T := TX9) (j := 8) (Cn := RX9) (b + 6) C rfl inlX9 (Nat.le_of_ble_eq_true rfl) q_6_8 (blk hb 0 rfl) rfl dX9_laysShares_198 ?_
          refine g_iconst (pc := 201) (v := 2) C dX9_laysShares_201 (by decide) ?_
          refine g_iload (pc := 202) C dX9_laysShares_202 rfl ?_
          refine g_imul (pc := 204) C dX9_laysShares_204 ?_
          refine g_iload_n (pc := 205) (i := 3) C dX9_laysShares_205 rfl rfl ?_
          refine g_iadd (pc := 206) C dX9_laysShares_206 ?_
          refine g_iaload (pc := 207) C (blk hb 6 rfl) dX9_laysShares_207 ?_
          refine g_goto (pc := 208) (tgt := 213) C dX9_laysShares_208 rfl ?_
          refine g_keep [true, true, false, true, false, false, false, true, true, true] ?_
          exact bX9_laysShares_213 C hr b hb ih σ l1 l3 l7 l8 r5 r5 (σ.1 (b + 6) ((2 * r5) + l3).toNatClampNeg)
def fX9_laysShares_130 (b : Nat) (σ : Sg) (l1 : Int32) (l3 : Int32) (l5 : Int32) (s0 : Int32) : Option Sg :=
  if l5 < s0 then
    (fX9_laysShares_236 b FU σ l3 s0 1)
  else
    (fX9_laysShares_146 b FU σ l1 l3 s0 0)
theorem bX9_laysShares_130 {X : Xc} {K : Kc} (C : MC X K cX9_laysShares 10 RX9 rmX9_laysShares) (hr : K.meth.sig.returnType = none) (b : Nat) (hb : moOK b) (σ : Sg) (l1 : Int32) (l3 : Int32) (l5 : Int32) (s0 : Int32) : GO X K 10 (fun r => MQv X K r) (fX9_laysShares_130 b σ l1 l3 l5 s0) σ 0 0 130 [some (.ref (X.ad b)), some (.int (l1)), none, some (.int (l3)), none, some (.int (l5)), none, none, none, none] [.int (s0)] := by
  unfold fX9_laysShares_130
  refine g_istore (pc := 130) C dX9_laysShares_130 (Nat.le_of_ble_eq_true rfl) rfl ?_
  refine g_iload (pc := 132) C dX9_laysShares_132 rfl ?_
  refine g_iload (pc := 134) C dX9_laysShares_134 rfl ?_
  refine g_icmp_lt (pc := 136) (tgt := 233) C dX9_laysShares_136 rfl ?_ ?_
  · refine g_iconst (pc := 233) (v := 1) C dX9_laysShares_233 (by decide) ?_
    refine g_istore (pc := 234) C dX9_laysShares_234 (Nat.le_of_ble_eq_true rfl) rfl ?_
    refine g_keep [true, false, false, true, false, false, true, true, false, false] ?_
    exact bX9_laysShares_236 C hr b hb FU σ l3 s0 1
  · refine g_iload (pc := 139) C dX9_laysShares_139 rfl ?_
    refine g_istore (pc := 141) C dX9_laysShares_141 (Nat.le_of_ble_eq_true rfl) rfl ?_
    refine g_iconst (pc := 143) (v := 0) C dX9_laysShares_143 (by decide) ?_
    refine g_istore (pc := 144) C dX9_laysShares_144 (Nat.le_of_ble_eq_true rfl) rfl ?_
    refine g_keep [true, true, false, true, false, false, false, true, true, false] ?_
    exact bX9_laysShares_146 C hr b hb FU σ l1 l3 s0 0
def fX9_laysShares_102 (b : Nat) (k16 : Sg → Int32 → Int32 → Int32 → Int32 → Int32 → Int32 → Option Sg) (σ : Sg) (l1 : Int32) (l2 : Int32) (l3 : Int32) (l4 : Int32) (l6 : Int32) (s0 : Int32) (s1 : Int32) : Option Sg :=
  nm (s0 + s1) fun v10 =>
  (k16 σ l1 l2 l3 l4 v10 (l6 + 1))
theorem bX9_laysShares_102 {X : Xc} {K : Kc} (C : MC X K cX9_laysShares 10 RX9 rmX9_laysShares) (hr : K.meth.sig.returnType = none) (b : Nat) (hb : moOK b){k16 : Sg → Int32 → Int32 → Int32 → Int32 → Int32 → Int32 → Option Sg} (hk16 : ∀ (σ : Sg) (l1 : Int32) (l2 : Int32) (l3 : Int32) (l4 : Int32) (l5 : Int32) (l6 : Int32), GO X K 10 (fun r => MQv X K r) (k16 σ l1 l2 l3 l4 l5 l6) σ 0 0 16 [some (.ref (X.ad b)), some (.int (l1)), some (.int (l2)), some (.int (l3)), some (.int (l4)), some (.int (l5)), some (.int (l6)), none, none, none] []) (σ : Sg) (l1 : Int32) (l2 : Int32) (l3 : Int32) (l4 : Int32) (l6 : Int32) (s0 : Int32) (s1 : Int32) : GO X K 10 (fun r => MQv X K r) (fX9_laysShares_102 b k16 σ l1 l2 l3 l4 l6 s0 s1) σ 0 0 102 [some (.ref (X.ad b)), some (.int (l1)), some (.int (l2)), some (.int (l3)), some (.int (l4)), none, some (.int (l6)), none, none, none] [.int (s1), .int (s0)] := by
  unfold fX9_laysShares_102
  refine g_iadd (pc := 102) C dX9_laysShares_102 ?_
  refine g_nm (fun v10 => ?_)
  refine g_istore (pc := 103) C dX9_laysShares_103 (Nat.le_of_ble_eq_true rfl) rfl ?_
  refine g_iinc (pc := 105) (v := l6 + 1) C dX9_laysShares_105 rfl (rfl) (Nat.le_of_ble_eq_true rfl) rfl ?_
  refine g_goto (pc := 108) (tgt := 16) C dX9_laysShares_108 rfl ?_
  refine g_keep [true, true, true, true, true, true, true, false, false, false] ?_
  exact hk16 σ l1 l2 l3 l4 v10 (l6 + 1)
def fX9_laysShares_72 (b : Nat) (k16 : Sg → Int32 → Int32 → Int32 → Int32 → Int32 → Int32 → Option Sg) (σ : Sg) (l1 : Int32) (l2 : Int32) (l3 : Int32) (l5 : Int32) (l6 : Int32) (s0 : Int32) (s1 : Int32) : Option Sg :=
  nm (s0 + s1) fun v9 =>
  if ck l6 24 then
    if (σ.1 (b + 9) l6.toNatClampNeg) = 0 then
      (fX9_laysShares_102 b k16 σ l1 l2 l3 v9 l6 l5 0)
    else
      if ck ((2 * l6) + l3) 48 then
        (fX9_laysShares_102 b k16 σ l1 l2 l3 v9 l6 l5 (σ.1 (b + 6) ((2 * l6) + l3).toNatClampNeg))
      else none
  else none
theorem bX9_laysShares_72 {X : Xc} {K : Kc} (C : MC X K cX9_laysShares 10 RX9 rmX9_laysShares) (hr : K.meth.sig.returnType = none) (b : Nat) (hb : moOK b){k16 : Sg → Int32 → Int32 → Int32 → Int32 → Int32 → Int32 → Option Sg} (hk16 : ∀ (σ : Sg) (l1 : Int32) (l2 : Int32) (l3 : Int32) (l4 : Int32) (l5 : Int32) (l6 : Int32), GO X K 10 (fun r => MQv X K r) (k16 σ l1 l2 l3 l4 l5 l6) σ 0 0 16 [some (.ref (X.ad b)), some (.int (l1)), some (.int (l2)), some (.int (l3)), some (.int (l4)), some (.int (l5)), some (.int (l6)), none, none, none] []) (σ : Sg) (l1 : Int32) (l2 : Int32) (l3 : Int32) (l5 : Int32) (l6 : Int32) (s0 : Int32) (s1 : Int32) : GO X K 10 (fun r => MQv X K r) (fX9_laysShares_72 b k16 σ l1 l2 l3 l5 l6 s0 s1) σ 0 0 72 [some (.ref (X.ad b)), some (.int (l1)), some (.int (l2)), some (.int (l3)), none, some (.int (l5)), some (.int (l6)), none, none, none] [.int (s1), .int (s0)] := by
  unfold fX9_laysShares_72
  refine g_iadd (pc := 72) C dX9_laysShares_72 ?_
  refine g_nm (fun v9 => ?_)
  refine g_istore (pc := 73) C dX9_laysShares_73 (Nat.le_of_ble_eq_true rfl) rfl ?_
  refine g_iload (pc := 75) C dX9_laysShares_75 rfl ?_
  refine g_aload_n (pc := 77) (i := 0) C dX9_laysShares_77 rfl rfl ?_
  refine g_getr (pc := 78) (ci := 9) (N := 27) (T := TX9) (j := 11) (Cn := RX9) (b + 9) C rfl inlX9 (Nat.le_of_ble_eq_true rfl) q_6_11 (blk hb 0 rfl) rfl dX9_laysShares_78 ?_
  refine g_iload (pc := 81) C dX9_laysShares_81 rfl ?_
  refine g_baload (pc := 83) C (blk hb 9 rfl) dX9_laysShares_83 ?_
  refine g_if_eq (pc := 84) (tgt := 101) C dX9_laysShares_84 rfl ?_ ?_
  · refine g_iconst (pc := 101) (v := 0) C dX9_laysShares_101 (by decide) ?_
    refine g_keep [true, true, true, true, true, false, true, false, false, false] ?_
    exact bX9_laysShares_102 C hr b hb hk16 σ l1 l2 l3 v9 l6 l5 0
  · refine g_aload_n (pc := 87) (i := 0) C dX9_laysShares_87 rfl rfl ?_
    refine g_getr (pc := 88) (ci := 9) (N := 27) (T := TX9) (j := 8) (Cn := RX9) (b + 6) C rfl inlX9 (Nat.le_of_ble_eq_true rfl) q_6_8 (blk hb 0 rfl) rfl dX9_laysShares_88 ?_
    refine g_iconst (pc := 91) (v := 2) C dX9_laysShares_91 (by decide) ?_
    refine g_iload (pc := 92) C dX9_laysShares_92 rfl ?_
    refine g_imul (pc := 94) C dX9_laysShares_94 ?_
    refine g_iload_n (pc := 95) (i := 3) C dX9_laysShares_95 rfl rfl ?_
    refine g_iadd (pc := 96) C dX9_laysShares_96 ?_
    refine g_iaload (pc := 97) C (blk hb 6 rfl) dX9_laysShares_97 ?_
    refine g_goto (pc := 98) (tgt := 102) C dX9_laysShares_98 rfl ?_
    refine g_keep [true, true, true, true, true, false, true, false, false, false] ?_
    exact bX9_laysShares_102 C hr b hb hk16 σ l1 l2 l3 v9 l6 l5 (σ.1 (b + 6) ((2 * l6) + l3).toNatClampNeg)
def fX9_laysShares_54 (b : Nat) (k16 : Sg → Int32 → Int32 → Int32 → Int32 → Int32 → Int32 → Option Sg) (σ : Sg) (l1 : Int32) (l2 : Int32) (l3 : Int32) (l4 : Int32) (l5 : Int32) (l6 : Int32) (s1 : Int32) (s2 : Int32) : Option Sg :=
  if ck s1 24 then
    nm (su σ (b + 9) s1.toNatClampNeg (vp_nar .boolean s2)) fun σ8 =>
    if ck l6 24 then
      if (σ8.1 (b + 9) l6.toNatClampNeg) = 0 then
        (fX9_laysShares_72 b k16 σ8 l1 l2 l3 l5 l6 l4 0)
      else
        (fX9_laysShares_72 b k16 σ8 l1 l2 l3 l5 l6 l4 1)
    else none
  else none
theorem bX9_laysShares_54 {X : Xc} {K : Kc} (C : MC X K cX9_laysShares 10 RX9 rmX9_laysShares) (hr : K.meth.sig.returnType = none) (b : Nat) (hb : moOK b){k16 : Sg → Int32 → Int32 → Int32 → Int32 → Int32 → Int32 → Option Sg} (hk16 : ∀ (σ : Sg) (l1 : Int32) (l2 : Int32) (l3 : Int32) (l4 : Int32) (l5 : Int32) (l6 : Int32), GO X K 10 (fun r => MQv X K r) (k16 σ l1 l2 l3 l4 l5 l6) σ 0 0 16 [some (.ref (X.ad b)), some (.int (l1)), some (.int (l2)), some (.int (l3)), some (.int (l4)), some (.int (l5)), some (.int (l6)), none, none, none] []) (σ : Sg) (l1 : Int32) (l2 : Int32) (l3 : Int32) (l4 : Int32) (l5 : Int32) (l6 : Int32) (s1 : Int32) (s2 : Int32) : GO X K 10 (fun r => MQv X K r) (fX9_laysShares_54 b k16 σ l1 l2 l3 l4 l5 l6 s1 s2) σ 0 0 54 [some (.ref (X.ad b)), some (.int (l1)), some (.int (l2)), some (.int (l3)), some (.int (l4)), some (.int (l5)), some (.int (l6)), none, none, none] [.int (s2), .int (s1), .ref (X.ad (b + 9))] := by
  unfold fX9_laysShares_54
  refine g_bastore (pc := 54) C (blk hb 9 rfl) dX9_laysShares_54 ?_
  refine g_nms (fun σ8 => ?_)
  refine g_iload (pc := 55) C dX9_laysShares_55 rfl ?_
  refine g_aload_n (pc := 57) (i := 0) C dX9_laysShares_57 rfl rfl ?_
  refine g_getr (pc := 58) (ci := 9) (N := 27) (T := TX9) (j := 11) (Cn := RX9) (b + 9) C rfl inlX9 (Nat.le_of_ble_eq_true rfl) q_6_11 (blk hb 0 rfl) rfl dX9_laysShares_58 ?_
  refine g_iload (pc := 61) C dX9_laysShares_61 rfl ?_
  refine g_baload (pc := 63) C (blk hb 9 rfl) dX9_laysShares_63 ?_
  refine g_if_eq (pc := 64) (tgt := 71) C dX9_laysShares_64 rfl ?_ ?_
  · refine g_iconst (pc := 71) (v := 0) C dX9_laysShares_71 (by decide) ?_
    refine g_keep [true, true, true, true, false, true, true, false, false, false] ?_
    exact bX9_laysShares_72 C hr b hb hk16 σ8 l1 l2 l3 l5 l6 l4 0
  · refine g_iconst (pc := 67) (v := 1) C dX9_laysShares_67 (by decide) ?_
    refine g_goto (pc := 68) (tgt := 72) C dX9_laysShares_68 rfl ?_
    refine g_keep [true, true, true, true, false, true, true, false, false, false] ?_
    exact bX9_laysShares_72 C hr b hb hk16 σ8 l1 l2 l3 l5 l6 l4 1
def fX9_laysShares_53 (b : Nat) (k16 : Sg → Int32 → Int32 → Int32 → Int32 → Int32 → Int32 → Option Sg) (σ : Sg) (l1 : Int32) (l2 : Int32) (l3 : Int32) (l4 : Int32) (l5 : Int32) (l6 : Int32) (s1 : Int32) : Option Sg :=
  (fX9_laysShares_54 b k16 σ l1 l2 l3 l4 l5 l6 s1 0)
theorem bX9_laysShares_53 {X : Xc} {K : Kc} (C : MC X K cX9_laysShares 10 RX9 rmX9_laysShares) (hr : K.meth.sig.returnType = none) (b : Nat) (hb : moOK b){k16 : Sg → Int32 → Int32 → Int32 → Int32 → Int32 → Int32 → Option Sg} (hk16 : ∀ (σ : Sg) (l1 : Int32) (l2 : Int32) (l3 : Int32) (l4 : Int32) (l5 : Int32) (l6 : Int32), GO X K 10 (fun r => MQv X K r) (k16 σ l1 l2 l3 l4 l5 l6) σ 0 0 16 [some (.ref (X.ad b)), some (.int (l1)), some (.int (l2)), some (.int (l3)), some (.int (l4)), some (.int (l5)), some (.int (l6)), none, none, none] []) (σ : Sg) (l1 : Int32) (l2 : Int32) (l3 : Int32) (l4 : Int32) (l5 : Int32) (l6 : Int32) (s1 : Int32) : GO X K 10 (fun r => MQv X K r) (fX9_laysShares_53 b k16 σ l1 l2 l3 l4 l5 l6 s1) σ 0 0 53 [some (.ref (X.ad b)), some (.int (l1)), some (.int (l2)), some (.int (l3)), some (.int (l4)), some (.int (l5)), some (.int (l6)), none, none, none] [.int (s1), .ref (X.ad (b + 9))] := by
  unfold fX9_laysShares_53
  refine g_iconst (pc := 53) (v := 0) C dX9_laysShares_53 (by decide) ?_
  refine g_keep [true, true, true, true, true, true, true, false, false, false] ?_
  exact bX9_laysShares_54 C hr b hb hk16 σ l1 l2 l3 l4 l5 l6 s1 0
def fX9_laysShares_16 (b : Nat) : Nat → Sg → Int32 → Int32 → Int32 → Int32 → Int32 → Int32 → Option Sg
  | 0, _, _, _, _, _, _, _ => none
  | n + 1, σ, l1, l2, l3, l4, l5, l6 =>
    if 24 ≤ l6 then
      if (l2 - (l4 - 1)) ≤ 0 then
        (fX9_laysShares_130 b σ l1 l3 l5 0)
      else
        (fX9_laysShares_130 b σ l1 l3 l5 (l2 - (l4 - 1)))
    else
      (fX9_isChild σ b l6 l1).bind fun r2 =>
      if r2 = true then
        if ck l6 24 then
          if (σ.1 (b + 5) l6.toNatClampNeg) = 0 then
            (fX9_laysShares_53 b (fX9_laysShares_16 b n) σ l1 l2 l3 l4 l5 l6 l6)
          else
            (fX9_laysShares_54 b (fX9_laysShares_16 b n) σ l1 l2 l3 l4 l5 l6 l6 1)
        else none
      else
        (fX9_laysShares_53 b (fX9_laysShares_16 b n) σ l1 l2 l3 l4 l5 l6 l6)
theorem bX9_laysShares_16 {X : Xc} {K : Kc} (C : MC X K cX9_laysShares 10 RX9 rmX9_laysShares) (hr : K.meth.sig.returnType = none) (b : Nat) (hb : moOK b) : ∀ (n : Nat) (σ : Sg) (l1 : Int32) (l2 : Int32) (l3 : Int32) (l4 : Int32) (l5 : Int32) (l6 : Int32), GO X K 10 (fun r => MQv X K r) (fX9_laysShares_16 b n σ l1 l2 l3 l4 l5 l6) σ 0 0 16 [some (.ref (X.ad b)), some (.int (l1)), some (.int (l2)), some (.int (l3)), some (.int (l4)), some (.int (l5)), some (.int (l6)), none, none, none] [] := by
  intro n
  induction n with
  | zero =>
    intro σ l1 l2 l3 l4 l5 l6
    exact g_none
  | succ n ih =>
    intro σ l1 l2 l3 l4 l5 l6
    unfold fX9_laysShares_16
    refine g_iload (pc := 16) C dX9_laysShares_16 rfl ?_
    refine g_bipush (pc := 18) (v := 24) C dX9_laysShares_18 (by decide) ?_
    refine g_icmp_ge (pc := 20) (tgt := 111) C dX9_laysShares_20 rfl ?_ ?_
    · refine g_iload_n (pc := 111) (i := 2) C dX9_laysShares_111 rfl rfl ?_
      refine g_iload (pc := 112) C dX9_laysShares_112 rfl ?_
      refine g_iconst (pc := 114) (v := 1) C dX9_laysShares_114 (by decide) ?_
      refine g_isub (pc := 115) C dX9_laysShares_115 ?_
      refine g_isub (pc := 116) C dX9_laysShares_116 ?_
      refine g_if_le (pc := 117) (tgt := 129) C dX9_laysShares_117 rfl ?_ ?_
      · refine g_iconst (pc := 129) (v := 0) C dX9_laysShares_129 (by decide) ?_
        refine g_keep [true, true, false, true, false, true, false, false, false, false] ?_
        exact bX9_laysShares_130 C hr b hb σ l1 l3 l5 0
      · refine g_iload_n (pc := 120) (i := 2) C dX9_laysShares_120 rfl rfl ?_
        refine g_iload (pc := 121) C dX9_laysShares_121 rfl ?_
        refine g_iconst (pc := 123) (v := 1) C dX9_laysShares_123 (by decide) ?_
        refine g_isub (pc := 124) C dX9_laysShares_124 ?_
        refine g_isub (pc := 125) C dX9_laysShares_125 ?_
        refine g_goto (pc := 126) (tgt := 130) C dX9_laysShares_126 rfl ?_
        refine g_keep [true, true, false, true, false, true, false, false, false, false] ?_
        exact bX9_laysShares_130 C hr b hb σ l1 l3 l5 (l2 - (l4 - 1))
    · refine g_aload_n (pc := 23) (i := 0) C dX9_laysShares_23 rfl rfl ?_
      refine g_getr (pc := 24) (ci := 9) (N := 27) (T := TX9) (j := 11) (Cn := RX9) (b + 9) C rfl inlX9 (Nat.le_of_ble_eq_true rfl) q_6_11 (blk hb 0 rfl) rfl dX9_laysShares_24 ?_
      refine g_iload (pc := 27) C dX9_laysShares_27 rfl ?_
      refine g_aload_n (pc := 29) (i := 0) C dX9_laysShares_29 rfl rfl ?_
      refine g_iload (pc := 30) C dX9_laysShares_30 rfl ?_
      refine g_iload_n (pc := 32) (i := 1) C dX9_laysShares_32 rfl rfl ?_
      refine g_callVi (pc := 33) (As := [.int (l6), .int (l1)]) C (kX9_isChild X σ b l6 l1 hb) (blk hb 0 rfl) rfl q_21_8 q_21_9 q_21_10 q_1_5 q_21_11 ⟨rfl, hdX9_isChild⟩ ⟨Nat.le_of_ble_eq_true rfl, Nat.le_of_ble_eq_true rfl, rfl, rfl⟩ ⟨Nat.zero_le _, Nat.zero_le _⟩ (Nat.le_of_ble_eq_true rfl) rfl rfl dX9_laysShares_33 (fun r2 _ => ?_)
      refine g_ifb_eq (pc := 36) (tgt := 53) C dX9_laysShares_36 rfl ?_ ?_
      · refine g_aload_n (pc := 39) (i := 0) C dX9_laysShares_39 rfl rfl ?_
        refine g_getr (pc := 40) (ci := 9) (N := 27) (T := TX9) (j := 7) (Cn := RX9) (b + 5) C rfl inlX9 (Nat.le_of_ble_eq_true rfl) q_6_7 (blk hb 0 rfl) rfl dX9_laysShares_40 ?_
        refine g_iload (pc := 43) C dX9_laysShares_43 rfl ?_
        refine g_baload (pc := 45) C (blk hb 5 rfl) dX9_laysShares_45 ?_
        refine g_if_eq (pc := 46) (tgt := 53) C dX9_laysShares_46 rfl ?_ ?_
        · refine g_keep [true, true, true, true, true, true, true, false, false, false] ?_
          exact bX9_laysShares_53 C hr b hb ih σ l1 l2 l3 l4 l5 l6 l6
        · refine g_iconst (pc := 49) (v := 1) C dX9_laysShares_49 (by decide) ?_
          refine g_goto (pc := 50) (tgt := 54) C dX9_laysShares_50 rfl ?_
          refine g_keep [true, true, true, true, true, true, true, false, false, false] ?_
          exact bX9_laysShares_54 C hr b hb ih σ l1 l2 l3 l4 l5 l6 l6 1
      · refine g_keep [true, true, true, true, true, true, true, false, false, false] ?_
        exact bX9_laysShares_53 C hr b hb ih σ l1 l2 l3 l4 l5 l6 l6
def fX9_laysShares (σ : Sg) (b : Nat) (p1 : Int32) (p2 : Int32) : Option Sg :=
  (fX9_its σ b p1 2).bind fun r1 =>
  (fX9_laysShares_16 b FU σ p1 p2 r1 0 0 0)
theorem kX9_laysShares (X : Xc) (σ : Sg) (b : Nat) (p1 : Int32) (p2 : Int32) (hb : moOK b) : ∀ r, fX9_laysShares σ b p1 p2 = some r → Met X.l yX9_laysShares (wsM yX9_laysShares cX9_laysShares 10 none) rmX9_laysShares (va_Pc [.ref (X.ad b), .int p1, .int p2] (PW X σ)) (Qv X r) 0 0 X.A := by
  refine mt_of (own := RX9) (lo := [some (.ref (X.ad b)), some (.int (p1)), some (.int (p2)), none, none, none, none, none, none, none]) (by decide) rfl (Nat.le_of_ble_eq_true rfl) rfl (fun K C hr => ?_)
  unfold fX9_laysShares
  refine g_aload_n (pc := 0) (i := 0) C dX9_laysShares_0 rfl rfl ?_
  refine g_iload_n (pc := 1) (i := 1) C dX9_laysShares_1 rfl rfl ?_
  refine g_iconst (pc := 2) (v := 2) C dX9_laysShares_2 (by decide) ?_
  refine g_callVi (pc := 3) (As := [.int (p1), .int (2)]) C (kX9_its X σ b p1 2 hb) (blk hb 0 rfl) rfl q_20_12 q_20_13 q_20_14 q_1_5 q_20_15 ⟨rfl, hdX9_its⟩ ⟨Nat.le_of_ble_eq_true rfl, Nat.le_of_ble_eq_true rfl, rfl, rfl⟩ ⟨Nat.zero_le _, Nat.zero_le _⟩ (Nat.le_of_ble_eq_true rfl) rfl rfl dX9_laysShares_3 (fun r1 _ => ?_)
  refine g_istore_n (pc := 6) (i := 3) C dX9_laysShares_6 rfl (Nat.le_of_ble_eq_true rfl) rfl ?_
  refine g_iconst (pc := 7) (v := 0) C dX9_laysShares_7 (by decide) ?_
  refine g_istore (pc := 8) C dX9_laysShares_8 (Nat.le_of_ble_eq_true rfl) rfl ?_
  refine g_iconst (pc := 10) (v := 0) C dX9_laysShares_10 (by decide) ?_
  refine g_istore (pc := 11) C dX9_laysShares_11 (Nat.le_of_ble_eq_true rfl) rfl ?_
  refine g_iconst (pc := 13) (v := 0) C dX9_laysShares_13 (by decide) ?_
  refine g_istore (pc := 14) C dX9_laysShares_14 (Nat.le_of_ble_eq_true rfl) rfl ?_
  refine g_keep [true, true, true, true, true, true, true, false, false, false] ?_
  exact bX9_laysShares_16 C hr b hb FU σ p1 p2 r1 0 0 0
theorem dX9_laysChildren_0 : decode cX9_laysChildren 0 = .ok (.aload_n 0, 1) := by decide +kernel
theorem dX9_laysChildren_1 : decode cX9_laysChildren 1 = .ok (.iload_n 1, 1) := by decide +kernel
theorem dX9_laysChildren_2 : decode cX9_laysChildren 2 = .ok (.putfield 173, 3) := by decide +kernel
theorem dX9_laysChildren_5 : decode cX9_laysChildren 5 = .ok (.aload_n 0, 1) := by decide +kernel
theorem dX9_laysChildren_6 : decode cX9_laysChildren 6 = .ok (.iload_n 1, 1) := by decide +kernel
theorem dX9_laysChildren_7 : decode cX9_laysChildren 7 = .ok (.iconst 2, 1) := by decide +kernel
theorem dX9_laysChildren_8 : decode cX9_laysChildren 8 = .ok (.invokevirtual 76, 3) := by decide +kernel
theorem dX9_laysChildren_11 : decode cX9_laysChildren 11 = .ok (.istore_n 2, 1) := by decide +kernel
theorem dX9_laysChildren_12 : decode cX9_laysChildren 12 = .ok (.aload_n 0, 1) := by decide +kernel
theorem dX9_laysChildren_13 : decode cX9_laysChildren 13 = .ok (.iload_n 1, 1) := by decide +kernel
theorem dX9_laysChildren_14 : decode cX9_laysChildren 14 = .ok (.aload_n 0, 1) := by decide +kernel
theorem dX9_laysChildren_15 : decode cX9_laysChildren 15 = .ok (.getfield 29, 3) := by decide +kernel
theorem dX9_laysChildren_18 : decode cX9_laysChildren 18 = .ok (.iconst 4, 1) := by decide +kernel
theorem dX9_laysChildren_19 : decode cX9_laysChildren 19 = .ok (.iload_n 1, 1) := by decide +kernel
theorem dX9_laysChildren_20 : decode cX9_laysChildren 20 = .ok (.imul, 1) := by decide +kernel
theorem dX9_laysChildren_21 : decode cX9_laysChildren 21 = .ok (.iconst 2, 1) := by decide +kernel
theorem dX9_laysChildren_22 : decode cX9_laysChildren 22 = .ok (.iadd, 1) := by decide +kernel
theorem dX9_laysChildren_23 : decode cX9_laysChildren 23 = .ok (.iload_n 2, 1) := by decide +kernel
theorem dX9_laysChildren_24 : decode cX9_laysChildren 24 = .ok (.iadd, 1) := by decide +kernel
theorem dX9_laysChildren_25 : decode cX9_laysChildren 25 = .ok (.iaload, 1) := by decide +kernel
theorem dX9_laysChildren_26 : decode cX9_laysChildren 26 = .ok (.invokevirtual 178, 3) := by decide +kernel
theorem dX9_laysChildren_29 : decode cX9_laysChildren 29 = .ok (.aload_n 0, 1) := by decide +kernel
theorem dX9_laysChildren_30 : decode cX9_laysChildren 30 = .ok (.getfield 29, 3) := by decide +kernel
theorem dX9_laysChildren_33 : decode cX9_laysChildren 33 = .ok (.iconst 4, 1) := by decide +kernel
theorem dX9_laysChildren_34 : decode cX9_laysChildren 34 = .ok (.iload_n 1, 1) := by decide +kernel
theorem dX9_laysChildren_35 : decode cX9_laysChildren 35 = .ok (.imul, 1) := by decide +kernel
theorem dX9_laysChildren_36 : decode cX9_laysChildren 36 = .ok (.iload_n 2, 1) := by decide +kernel
theorem dX9_laysChildren_37 : decode cX9_laysChildren 37 = .ok (.iadd, 1) := by decide +kernel
theorem dX9_laysChildren_38 : decode cX9_laysChildren 38 = .ok (.iaload, 1) := by decide +kernel
theorem dX9_laysChildren_39 : decode cX9_laysChildren 39 = .ok (.istore_n 3, 1) := by decide +kernel
theorem dX9_laysChildren_40 : decode cX9_laysChildren 40 = .ok (.iconst 0, 1) := by decide +kernel
theorem dX9_laysChildren_41 : decode cX9_laysChildren 41 = .ok (.istore 4, 2) := by decide +kernel
theorem dX9_laysChildren_43 : decode cX9_laysChildren 43 = .ok (.iload 4, 2) := by decide +kernel
theorem dX9_laysChildren_45 : decode cX9_laysChildren 45 = .ok (.aload_n 0, 1) := by decide +kernel
theorem dX9_laysChildren_46 : decode cX9_laysChildren 46 = .ok (.iload_n 1, 1) := by decide +kernel
theorem dX9_laysChildren_47 : decode cX9_laysChildren 47 = .ok (.invokevirtual 113, 3) := by decide +kernel
theorem dX9_laysChildren_50 : decode cX9_laysChildren 50 = .ok (.if_icmp .ge 122, 3) := by decide +kernel
theorem dX9_laysChildren_53 : decode cX9_laysChildren 53 = .ok (.aload_n 0, 1) := by decide +kernel
theorem dX9_laysChildren_54 : decode cX9_laysChildren 54 = .ok (.iload_n 1, 1) := by decide +kernel
theorem dX9_laysChildren_55 : decode cX9_laysChildren 55 = .ok (.iload 4, 2) := by decide +kernel
theorem dX9_laysChildren_57 : decode cX9_laysChildren 57 = .ok (.invokevirtual 116, 3) := by decide +kernel
theorem dX9_laysChildren_60 : decode cX9_laysChildren 60 = .ok (.istore 5, 2) := by decide +kernel
theorem dX9_laysChildren_62 : decode cX9_laysChildren 62 = .ok (.aload_n 0, 1) := by decide +kernel
theorem dX9_laysChildren_63 : decode cX9_laysChildren 63 = .ok (.getfield 22, 3) := by decide +kernel
theorem dX9_laysChildren_66 : decode cX9_laysChildren 66 = .ok (.iload 5, 2) := by decide +kernel
theorem dX9_laysChildren_68 : decode cX9_laysChildren 68 = .ok (.baload, 1) := by decide +kernel
theorem dX9_laysChildren_69 : decode cX9_laysChildren 69 = .ok (.ifCond .eq 97, 3) := by decide +kernel
theorem dX9_laysChildren_72 : decode cX9_laysChildren 72 = .ok (.aload_n 0, 1) := by decide +kernel
theorem dX9_laysChildren_73 : decode cX9_laysChildren 73 = .ok (.getfield 29, 3) := by decide +kernel
theorem dX9_laysChildren_76 : decode cX9_laysChildren 76 = .ok (.iconst 4, 1) := by decide +kernel
theorem dX9_laysChildren_77 : decode cX9_laysChildren 77 = .ok (.iload 5, 2) := by decide +kernel
theorem dX9_laysChildren_79 : decode cX9_laysChildren 79 = .ok (.imul, 1) := by decide +kernel
theorem dX9_laysChildren_80 : decode cX9_laysChildren 80 = .ok (.iload_n 2, 1) := by decide +kernel
theorem dX9_laysChildren_81 : decode cX9_laysChildren 81 = .ok (.iadd, 1) := by decide +kernel
theorem dX9_laysChildren_82 : decode cX9_laysChildren 82 = .ok (.iload_n 3, 1) := by decide +kernel
theorem dX9_laysChildren_83 : decode cX9_laysChildren 83 = .ok (.iastore, 1) := by decide +kernel
theorem dX9_laysChildren_84 : decode cX9_laysChildren 84 = .ok (.aload_n 0, 1) := by decide +kernel
theorem dX9_laysChildren_85 : decode cX9_laysChildren 85 = .ok (.getfield 29, 3) := by decide +kernel
theorem dX9_laysChildren_88 : decode cX9_laysChildren 88 = .ok (.iconst 4, 1) := by decide +kernel
theorem dX9_laysChildren_89 : decode cX9_laysChildren 89 = .ok (.iload 5, 2) := by decide +kernel
theorem dX9_laysChildren_91 : decode cX9_laysChildren 91 = .ok (.imul, 1) := by decide +kernel
theorem dX9_laysChildren_92 : decode cX9_laysChildren 92 = .ok (.iconst 2, 1) := by decide +kernel
theorem dX9_laysChildren_93 : decode cX9_laysChildren 93 = .ok (.iadd, 1) := by decide +kernel
theorem dX9_laysChildren_94 : decode cX9_laysChildren 94 = .ok (.iload_n 2, 1) := by decide +kernel
theorem dX9_laysChildren_95 : decode cX9_laysChildren 95 = .ok (.iadd, 1) := by decide +kernel
theorem dX9_laysChildren_96 : decode cX9_laysChildren 96 = .ok (.aload_n 0, 1) := by decide +kernel
theorem dX9_laysChildren_97 : decode cX9_laysChildren 97 = .ok (.getfield 32, 3) := by decide +kernel
theorem dX9_laysChildren_100 : decode cX9_laysChildren 100 = .ok (.iload 5, 2) := by decide +kernel
theorem dX9_laysChildren_102 : decode cX9_laysChildren 102 = .ok (.iaload, 1) := by decide +kernel
theorem dX9_laysChildren_103 : decode cX9_laysChildren 103 = .ok (.iastore, 1) := by decide +kernel
theorem dX9_laysChildren_104 : decode cX9_laysChildren 104 = .ok (.aload_n 0, 1) := by decide +kernel
theorem dX9_laysChildren_105 : decode cX9_laysChildren 105 = .ok (.getfield 29, 3) := by decide +kernel
theorem dX9_laysChildren_108 : decode cX9_laysChildren 108 = .ok (.iconst 4, 1) := by decide +kernel
theorem dX9_laysChildren_109 : decode cX9_laysChildren 109 = .ok (.iload 5, 2) := by decide +kernel
theorem dX9_laysChildren_111 : decode cX9_laysChildren 111 = .ok (.imul, 1) := by decide +kernel
theorem dX9_laysChildren_112 : decode cX9_laysChildren 112 = .ok (.iconst 1, 1) := by decide +kernel
theorem dX9_laysChildren_113 : decode cX9_laysChildren 113 = .ok (.iadd, 1) := by decide +kernel
theorem dX9_laysChildren_114 : decode cX9_laysChildren 114 = .ok (.iload_n 2, 1) := by decide +kernel
theorem dX9_laysChildren_115 : decode cX9_laysChildren 115 = .ok (.isub, 1) := by decide +kernel
theorem dX9_laysChildren_116 : decode cX9_laysChildren 116 = .ok (.aload_n 0, 1) := by decide +kernel
theorem dX9_laysChildren_117 : decode cX9_laysChildren 117 = .ok (.getfield 29, 3) := by decide +kernel
theorem dX9_laysChildren_120 : decode cX9_laysChildren 120 = .ok (.iconst 4, 1) := by decide +kernel
theorem dX9_laysChildren_121 : decode cX9_laysChildren 121 = .ok (.iload_n 1, 1) := by decide +kernel
theorem dX9_laysChildren_122 : decode cX9_laysChildren 122 = .ok (.imul, 1) := by decide +kernel
theorem dX9_laysChildren_123 : decode cX9_laysChildren 123 = .ok (.iconst 1, 1) := by decide +kernel
theorem dX9_laysChildren_124 : decode cX9_laysChildren 124 = .ok (.iadd, 1) := by decide +kernel
theorem dX9_laysChildren_125 : decode cX9_laysChildren 125 = .ok (.iload_n 2, 1) := by decide +kernel
theorem dX9_laysChildren_126 : decode cX9_laysChildren 126 = .ok (.isub, 1) := by decide +kernel
theorem dX9_laysChildren_127 : decode cX9_laysChildren 127 = .ok (.iaload, 1) := by decide +kernel
theorem dX9_laysChildren_128 : decode cX9_laysChildren 128 = .ok (.iastore, 1) := by decide +kernel
theorem dX9_laysChildren_129 : decode cX9_laysChildren 129 = .ok (.aload_n 0, 1) := by decide +kernel
theorem dX9_laysChildren_130 : decode cX9_laysChildren 130 = .ok (.getfield 29, 3) := by decide +kernel
theorem dX9_laysChildren_133 : decode cX9_laysChildren 133 = .ok (.iconst 4, 1) := by decide +kernel
theorem dX9_laysChildren_134 : decode cX9_laysChildren 134 = .ok (.iload 5, 2) := by decide +kernel
theorem dX9_laysChildren_136 : decode cX9_laysChildren 136 = .ok (.imul, 1) := by decide +kernel
theorem dX9_laysChildren_137 : decode cX9_laysChildren 137 = .ok (.iconst 3, 1) := by decide +kernel
theorem dX9_laysChildren_138 : decode cX9_laysChildren 138 = .ok (.iadd, 1) := by decide +kernel
theorem dX9_laysChildren_139 : decode cX9_laysChildren 139 = .ok (.iload_n 2, 1) := by decide +kernel
theorem dX9_laysChildren_140 : decode cX9_laysChildren 140 = .ok (.isub, 1) := by decide +kernel
theorem dX9_laysChildren_141 : decode cX9_laysChildren 141 = .ok (.aload_n 0, 1) := by decide +kernel
theorem dX9_laysChildren_142 : decode cX9_laysChildren 142 = .ok (.getfield 29, 3) := by decide +kernel
theorem dX9_laysChildren_145 : decode cX9_laysChildren 145 = .ok (.iconst 4, 1) := by decide +kernel
theorem dX9_laysChildren_146 : decode cX9_laysChildren 146 = .ok (.iload_n 1, 1) := by decide +kernel
theorem dX9_laysChildren_147 : decode cX9_laysChildren 147 = .ok (.imul, 1) := by decide +kernel
theorem dX9_laysChildren_148 : decode cX9_laysChildren 148 = .ok (.iconst 3, 1) := by decide +kernel
theorem dX9_laysChildren_149 : decode cX9_laysChildren 149 = .ok (.iadd, 1) := by decide +kernel
theorem dX9_laysChildren_150 : decode cX9_laysChildren 150 = .ok (.iload_n 2, 1) := by decide +kernel
theorem dX9_laysChildren_151 : decode cX9_laysChildren 151 = .ok (.isub, 1) := by decide +kernel
theorem dX9_laysChildren_152 : decode cX9_laysChildren 152 = .ok (.iaload, 1) := by decide +kernel
theorem dX9_laysChildren_153 : decode cX9_laysChildren 153 = .ok (.iastore, 1) := by decide +kernel
theorem dX9_laysChildren_154 : decode cX9_laysChildren 154 = .ok (.iload_n 3, 1) := by decide +kernel
theorem dX9_laysChildren_155 : decode cX9_laysChildren 155 = .ok (.aload_n 0, 1) := by decide +kernel
theorem dX9_laysChildren_156 : decode cX9_laysChildren 156 = .ok (.getfield 32, 3) := by decide +kernel
theorem dX9_laysChildren_159 : decode cX9_laysChildren 159 = .ok (.iload 5, 2) := by decide +kernel
theorem dX9_laysChildren_161 : decode cX9_laysChildren 161 = .ok (.iaload, 1) := by decide +kernel
theorem dX9_laysChildren_162 : decode cX9_laysChildren 162 = .ok (.iconst 1, 1) := by decide +kernel
theorem dX9_laysChildren_163 : decode cX9_laysChildren 163 = .ok (.iadd, 1) := by decide +kernel
theorem dX9_laysChildren_164 : decode cX9_laysChildren 164 = .ok (.iadd, 1) := by decide +kernel
theorem dX9_laysChildren_165 : decode cX9_laysChildren 165 = .ok (.istore_n 3, 1) := by decide +kernel
theorem dX9_laysChildren_166 : decode cX9_laysChildren 166 = .ok (.iinc 4 1, 3) := by decide +kernel
theorem dX9_laysChildren_169 : decode cX9_laysChildren 169 = .ok (.goto (-126), 3) := by decide +kernel
theorem dX9_laysChildren_172 : decode cX9_laysChildren 172 = .ok (.return_, 1) := by decide +kernel
abbrev rmX9_laysChildren : Room := { frames := 6, cells := 0, slots := 0, locals := 157 }
theorem hdX9_laysChildren : yX9_laysChildren.cls ≠ "java/lang/invoke/MethodHandle" ∧ yX9_laysChildren.cls ≠ "java/lang/invoke/VarHandle" ∧ (parseMethodDescriptor yX9_laysChildren.desc).map (fun d => d.parameters.length) = some 1 := by decide +kernel
def fX9_laysChildren_166 (b : Nat) (k43 : Sg → Int32 → Int32 → Int32 → Int32 → Option Sg) (σ : Sg) (l1 : Int32) (l2 : Int32) (l3 : Int32) (l4 : Int32) : Option Sg :=
  (k43 σ l1 l2 l3 (l4 + 1))
theorem bX9_laysChildren_166 {X : Xc} {K : Kc} (C : MC X K cX9_laysChildren 6 RX9 rmX9_laysChildren) (hr : K.meth.sig.returnType = none) (b : Nat) (hb : moOK b){k43 : Sg → Int32 → Int32 → Int32 → Int32 → Option Sg} (hk43 : ∀ (σ : Sg) (l1 : Int32) (l2 : Int32) (l3 : Int32) (l4 : Int32), GO X K 6 (fun r => MQv X K r) (k43 σ l1 l2 l3 l4) σ 0 0 43 [some (.ref (X.ad b)), some (.int (l1)), some (.int (l2)), some (.int (l3)), some (.int (l4)), none] []) (σ : Sg) (l1 : Int32) (l2 : Int32) (l3 : Int32) (l4 : Int32) : GO X K 6 (fun r => MQv X K r) (fX9_laysChildren_166 b k43 σ l1 l2 l3 l4) σ 0 0 166 [some (.ref (X.ad b)), some (.int (l1)), some (.int (l2)), some (.int (l3)), some (.int (l4)), none] [] := by
  unfold fX9_laysChildren_166
  refine g_iinc (pc := 166) (v := l4 + 1) C dX9_laysChildren_166 rfl (rfl) (Nat.le_of_ble_eq_true rfl) rfl ?_
  refine g_goto (pc := 169) (tgt := 43) C dX9_laysChildren_169 rfl ?_
  refine g_keep [true, true, true, true, true, false] ?_
  exact hk43 σ l1 l2 l3 (l4 + 1)
def fX9_laysChildren_43 (b : Nat) : Nat → Sg → Int32 → Int32 → Int32 → Int32 → Option Sg
  | 0, _, _, _, _, _ => none
  | n + 1, σ, l1, l2, l3, l4 =>
    (fX9_childMany σ b l1).bind fun r5 =>
    if r5 ≤ l4 then
      some σ
    else
      (fX9_child σ b l1 l4).bind fun r6 =>
      if ck r6 24 then
        if (σ.1 (b + 5) r6.toNatClampNeg) = 0 then
          (fX9_laysChildren_166 b (fX9_laysChildren_43 b n) σ l1 l2 l3 l4)
        else
          if ck ((4 * r6) + l2) 96 then
            nm (su σ (b + 7) ((4 * r6) + l2).toNatClampNeg l3) fun σ7 =>
            if ck r6 24 then
              if ck (((4 * r6) + 2) + l2) 96 then
                nm (su σ7 (b + 7) (((4 * r6) + 2) + l2).toNatClampNeg (σ7.1 (b + 8) r6.toNatClampNeg)) fun σ8 =>
                if ck (((4 * l1) + 1) - l2) 96 then
                  if ck (((4 * r6) + 1) - l2) 96 then
                    nm (su σ8 (b + 7) (((4 * r6) + 1) - l2).toNatClampNeg (σ8.1 (b + 7) (((4 * l1) + 1) - l2).toNatClampNeg)) fun σ9 =>
                    if ck (((4 * l1) + 3) - l2) 96 then
                      if ck (((4 * r6) + 3) - l2) 96 then
                        nm (su σ9 (b + 7) (((4 * r6) + 3) - l2).toNatClampNeg (σ9.1 (b + 7) (((4 * l1) + 3) - l2).toNatClampNeg)) fun σ10 =>
                        if ck r6 24 then
                          nm (l3 + ((σ10.1 (b + 8) r6.toNatClampNeg) + 1)) fun v11 =>
                          (fX9_laysChildren_166 b (fX9_laysChildren_43 b n) σ10 l1 l2 v11 l4)
                        else none
                      else none
                    else none
                  else none
                else none
              else none
            else none
          else none
      else none
theorem bX9_laysChildren_43 {X : Xc} {K : Kc} (C : MC X K cX9_laysChildren 6 RX9 rmX9_laysChildren) (hr : K.meth.sig.returnType = none) (b : Nat) (hb : moOK b) : ∀ (n : Nat) (σ : Sg) (l1 : Int32) (l2 : Int32) (l3 : Int32) (l4 : Int32), GO X K 6 (fun r => MQv X K r) (fX9_laysChildren_43 b n σ l1 l2 l3 l4) σ 0 0 43 [some (.ref (X.ad b)), some (.int (l1)), some (.int (l2)), some (.int (l3)), some (.int (l4)), none] [] := by
  intro n
  induction n with
  | zero =>
    intro σ l1 l2 l3 l4
    exact g_none
  | succ n ih =>
    intro σ l1 l2 l3 l4
    unfold fX9_laysChildren_43
    refine g_iload (pc := 43) C dX9_laysChildren_43 rfl ?_
    refine g_aload_n (pc := 45) (i := 0) C dX9_laysChildren_45 rfl rfl ?_
    refine g_iload_n (pc := 46) (i := 1) C dX9_laysChildren_46 rfl rfl ?_
    refine g_callVi (pc := 47) (As := [.int (l1)]) C (kX9_childMany X σ b l1 hb) (blk hb 0 rfl) rfl q_21_16 q_21_17 q_21_18 q_1_5 q_21_19 ⟨rfl, hdX9_childMany⟩ ⟨Nat.le_of_ble_eq_true rfl, Nat.le_of_ble_eq_true rfl, rfl, rfl⟩ ⟨Nat.zero_le _, Nat.zero_le _⟩ (Nat.le_of_ble_eq_true rfl) rfl rfl dX9_laysChildren_47 (fun r5 _ => ?_)
    refine g_icmp_ge (pc := 50) (tgt := 172) C dX9_laysChildren_50 rfl ?_ ?_
    · exact g_vret (pc := 172) C hr dX9_laysChildren_172 rfl
    · refine g_aload_n (pc := 53) (i := 0) C dX9_laysChildren_53 rfl rfl ?_
      refine g_iload_n (pc := 54) (i := 1) C dX9_laysChildren_54 rfl rfl ?_
      refine g_iload (pc := 55) C dX9_laysChildren_55 rfl ?_
      refine g_callVi (pc := 57) (As := [.int (l1), .int (l4)]) C (kX9_child X σ b l1 l4 hb) (blk hb 0 rfl) rfl q_21_20 q_21_21 q_21_22 q_1_5 q_21_23 ⟨rfl, hdX9_child⟩ ⟨Nat.le_of_ble_eq_true rfl, Nat.le_of_ble_eq_true rfl, rfl, rfl⟩ ⟨Nat.zero_le _, Nat.zero_le _⟩ (Nat.le_of_ble_eq_true rfl) rfl rfl dX9_laysChildren_57 (fun r6 _ => ?_)
      refine g_istore (pc := 60) C dX9_laysChildren_60 (Nat.le_of_ble_eq_true rfl) rfl ?_
      refine g_aload_n (pc := 62) (i := 0) C dX9_laysChildren_62 rfl rfl ?_
      refine g_getr (pc := 63) (ci := 9) (N := 27) (T := TX9) (j := 7) (Cn := RX9) (b + 5) C rfl inlX9 (Nat.le_of_ble_eq_true rfl) q_6_7 (blk hb 0 rfl) rfl dX9_laysChildren_63 ?_
      refine g_iload (pc := 66) C dX9_laysChildren_66 rfl ?_
      refine g_baload (pc := 68) C (blk hb 5 rfl) dX9_laysChildren_68 ?_
      refine g_if_eq (pc := 69) (tgt := 166) C dX9_laysChildren_69 rfl ?_ ?_
      · refine g_keep [true, true, true, true, true, false] ?_
        exact bX9_laysChildren_166 C hr b hb ih σ l1 l2 l3 l4
      · refine g_aload_n (pc := 72) (i := 0) C dX9_laysChildren_72 rfl rfl ?_
        refine g_getr (pc := 73) (ci := 9) (N := 27) (T := TX9) (j := 9) (Cn := RX9) (b + 7) C rfl inlX9 (Nat.le_of_ble_eq_true rfl) q_6_9 (blk hb 0 rfl) rfl dX9_laysChildren_73 ?_
        refine g_iconst (pc := 76) (v := 4) C dX9_laysChildren_76 (by decide) ?_
        refine g_iload (pc := 77) C dX9_laysChildren_77 rfl ?_
        refine g_imul (pc := 79) C dX9_laysChildren_79 ?_
        refine g_iload_n (pc := 80) (i := 2) C dX9_laysChildren_80 rfl rfl ?_
        refine g_iadd (pc := 81) C dX9_laysChildren_81 ?_
        refine g_iload_n (pc := 82) (i := 3) C dX9_laysChildren_82 rfl rfl ?_
        refine g_iastore (pc := 83) C (blk hb 7 rfl) dX9_laysChildren_83 ?_
        refine g_nms (fun σ7 => ?_)
        refine g_aload_n (pc := 84) (i := 0) C dX9_laysChildren_84 rfl rfl ?_
        refine g_getr (pc := 85) (ci := 9) (N := 27) (T := TX9) (j := 9) (Cn := RX9) (b + 7) C rfl inlX9 (Nat.le_of_ble_eq_true rfl) q_6_9 (blk hb 0 rfl) rfl dX9_laysChildren_85 ?_
        refine g_iconst (pc := 88) (v := 4) C dX9_laysChildren_88 (by decide) ?_
        refine g_iload (pc := 89) C dX9_laysChildren_89 rfl ?_
        refine g_imul (pc := 91) C dX9_laysChildren_91 ?_
        refine g_iconst (pc := 92) (v := 2) C dX9_laysChildren_92 (by decide) ?_
        refine g_iadd (pc := 93) C dX9_laysChildren_93 ?_
        refine g_iload_n (pc := 94) (i := 2) C dX9_laysChildren_94 rfl rfl ?_
        refine g_iadd (pc := 95) C dX9_laysChildren_95 ?_
        refine g_aload_n (pc := 96) (i := 0) C dX9_laysChildren_96 rfl rfl ?_
        refine g_getr (pc := 97) (ci := 9) (N := 27) (T := TX9) (j := 10) (Cn := RX9) (b + 8) C rfl inlX9 (Nat.le_of_ble_eq_true rfl) q_6_10 (blk hb 0 rfl) rfl dX9_laysChildren_97 ?_
        refine g_iload (pc := 100) C dX9_laysChildren_100 rfl ?_
        refine g_iaload (pc := 102) C (blk hb 8 rfl) dX9_laysChildren_102 ?_
        refine g_iastore (pc := 103) C (blk hb 7 rfl) dX9_laysChildren_103 ?_
        refine g_nms (fun σ8 => ?_)
        refine g_aload_n (pc := 104) (i := 0) C dX9_laysChildren_104 rfl rfl ?_
        refine g_getr (pc := 105) (ci := 9) (N := 27) (T := TX9) (j := 9) (Cn := RX9) (b + 7) C rfl inlX9 (Nat.le_of_ble_eq_true rfl) q_6_9 (blk hb 0 rfl) rfl dX9_laysChildren_105 ?_
        refine g_iconst (pc := 108) (v := 4) C dX9_laysChildren_108 (by decide) ?_
        refine g_iload (pc := 109) C dX9_laysChildren_109 rfl ?_
        refine g_imul (pc := 111) C dX9_laysChildren_111 ?_
        refine g_iconst (pc := 112) (v := 1) C dX9_laysChildren_112 (by decide) ?_
        refine g_iadd (pc := 113) C dX9_laysChildren_113 ?_
        refine g_iload_n (pc := 114) (i := 2) C dX9_laysChildren_114 rfl rfl ?_
        refine g_isub (pc := 115) C dX9_laysChildren_115 ?_
        refine g_aload_n (pc := 116) (i := 0) C dX9_laysChildren_116 rfl rfl ?_
        refine g_getr (pc := 117) (ci := 9) (N := 27) (T := TX9) (j := 9) (Cn := RX9) (b + 7) C rfl inlX9 (Nat.le_of_ble_eq_true rfl) q_6_9 (blk hb 0 rfl) rfl dX9_laysChildren_117 ?_
        refine g_iconst (pc := 120) (v := 4) C dX9_laysChildren_120 (by decide) ?_
        refine g_iload_n (pc := 121) (i := 1) C dX9_laysChildren_121 rfl rfl ?_
        refine g_imul (pc := 122) C dX9_laysChildren_122 ?_
        refine g_iconst (pc := 123) (v := 1) C dX9_laysChildren_123 (by decide) ?_
        refine g_iadd (pc := 124) C dX9_laysChildren_124 ?_
        refine g_iload_n (pc := 125) (i := 2) C dX9_laysChildren_125 rfl rfl ?_
        refine g_isub (pc := 126) C dX9_laysChildren_126 ?_
        refine g_iaload (pc := 127) C (blk hb 7 rfl) dX9_laysChildren_127 ?_
        refine g_iastore (pc := 128) C (blk hb 7 rfl) dX9_laysChildren_128 ?_
        refine g_nms (fun σ9 => ?_)
        refine g_aload_n (pc := 129) (i := 0) C dX9_laysChildren_129 rfl rfl ?_
        refine g_getr (pc := 130) (ci := 9) (N := 27) (T := TX9) (j := 9) (Cn := RX9) (b + 7) C rfl inlX9 (Nat.le_of_ble_eq_true rfl) q_6_9 (blk hb 0 rfl) rfl dX9_laysChildren_130 ?_
        refine g_iconst (pc := 133) (v := 4) C dX9_laysChildren_133 (by decide) ?_
        refine g_iload (pc := 134) C dX9_laysChildren_134 rfl ?_
        refine g_imul (pc := 136) C dX9_laysChildren_136 ?_
        refine g_iconst (pc := 137) (v := 3) C dX9_laysChildren_137 (by decide) ?_
        refine g_iadd (pc := 138) C dX9_laysChildren_138 ?_
        refine g_iload_n (pc := 139) (i := 2) C dX9_laysChildren_139 rfl rfl ?_
        refine g_isub (pc := 140) C dX9_laysChildren_140 ?_
        refine g_aload_n (pc := 141) (i := 0) C dX9_laysChildren_141 rfl rfl ?_
        refine g_getr (pc := 142) (ci := 9) (N := 27) (T := TX9) (j := 9) (Cn := RX9) (b + 7) C rfl inlX9 (Nat.le_of_ble_eq_true rfl) q_6_9 (blk hb 0 rfl) rfl dX9_laysChildren_142 ?_
        refine g_iconst (pc := 145) (v := 4) C dX9_laysChildren_145 (by decide) ?_
        refine g_iload_n (pc := 146) (i := 1) C dX9_laysChildren_146 rfl rfl ?_
        refine g_imul (pc := 147) C dX9_laysChildren_147 ?_
        refine g_iconst (pc := 148) (v := 3) C dX9_laysChildren_148 (by decide) ?_
        refine g_iadd (pc := 149) C dX9_laysChildren_149 ?_
        refine g_iload_n (pc := 150) (i := 2) C dX9_laysChildren_150 rfl rfl ?_
        refine g_isub (pc := 151) C dX9_laysChildren_151 ?_
        refine g_iaload (pc := 152) C (blk hb 7 rfl) dX9_laysChildren_152 ?_
        refine g_iastore (pc := 153) C (blk hb 7 rfl) dX9_laysChildren_153 ?_
        refine g_nms (fun σ10 => ?_)
        refine g_iload_n (pc := 154) (i := 3) C dX9_laysChildren_154 rfl rfl ?_
        refine g_aload_n (pc := 155) (i := 0) C dX9_laysChildren_155 rfl rfl ?_
        refine g_getr (pc := 156) (ci := 9) (N := 27) (T := TX9) (j := 10) (Cn := RX9) (b + 8) C rfl inlX9 (Nat.le_of_ble_eq_true rfl) q_6_10 (blk hb 0 rfl) rfl dX9_laysChildren_156 ?_
        refine g_iload (pc := 159) C dX9_laysChildren_159 rfl ?_
        refine g_iaload (pc := 161) C (blk hb 8 rfl) dX9_laysChildren_161 ?_
        refine g_iconst (pc := 162) (v := 1) C dX9_laysChildren_162 (by decide) ?_
        refine g_iadd (pc := 163) C dX9_laysChildren_163 ?_
        refine g_iadd (pc := 164) C dX9_laysChildren_164 ?_
        refine g_nm (fun v11 => ?_)
        refine g_istore_n (pc := 165) (i := 3) C dX9_laysChildren_165 rfl (Nat.le_of_ble_eq_true rfl) rfl ?_
        refine g_keep [true, true, true, true, true, false] ?_
        exact bX9_laysChildren_166 C hr b hb ih σ10 l1 l2 v11 l4
def fX9_laysChildren (σ : Sg) (b : Nat) (p1 : Int32) : Option Sg :=
  nm (su σ b 12 p1) fun σ1 =>
  (fX9_its σ1 b p1 2).bind fun r2 =>
  if ck (((4 * p1) + 2) + r2) 96 then
    (fX9_laysShares σ1 b p1 (σ1.1 (b + 7) (((4 * p1) + 2) + r2).toNatClampNeg)).bind fun σ3 =>
    if ck ((4 * p1) + r2) 96 then
      nm (σ3.1 (b + 7) ((4 * p1) + r2).toNatClampNeg) fun v4 =>
      (fX9_laysChildren_43 b FU σ3 p1 r2 v4 0)
    else none
  else none
theorem kX9_laysChildren (X : Xc) (σ : Sg) (b : Nat) (p1 : Int32) (hb : moOK b) : ∀ r, fX9_laysChildren σ b p1 = some r → Met X.l yX9_laysChildren (wsM yX9_laysChildren cX9_laysChildren 6 none) rmX9_laysChildren (va_Pc [.ref (X.ad b), .int p1] (PW X σ)) (Qv X r) 0 0 X.A := by
  refine mt_of (own := RX9) (lo := [some (.ref (X.ad b)), some (.int (p1)), none, none, none, none]) (by decide) rfl (Nat.le_of_ble_eq_true rfl) rfl (fun K C hr => ?_)
  unfold fX9_laysChildren
  refine g_aload_n (pc := 0) (i := 0) C dX9_laysChildren_0 rfl rfl ?_
  refine g_iload_n (pc := 1) (i := 1) C dX9_laysChildren_1 rfl rfl ?_
  refine g_puti (pc := 2) (ci := 9) (N := 27) (T := TX9) (j := 12) (Cn := RX9) C rfl inlX9 tyX9_ok nmX9 (Nat.le_of_ble_eq_true rfl) q_27_17 (blk hb 0 rfl) rfl rfl rfl dX9_laysChildren_2 ?_
  refine g_nms (fun σ1 => ?_)
  refine g_aload_n (pc := 5) (i := 0) C dX9_laysChildren_5 rfl rfl ?_
  refine g_iload_n (pc := 6) (i := 1) C dX9_laysChildren_6 rfl rfl ?_
  refine g_iconst (pc := 7) (v := 2) C dX9_laysChildren_7 (by decide) ?_
  refine g_callVi (pc := 8) (As := [.int (p1), .int (2)]) C (kX9_its X σ1 b p1 2 hb) (blk hb 0 rfl) rfl q_20_12 q_20_13 q_20_14 q_1_5 q_20_15 ⟨rfl, hdX9_its⟩ ⟨Nat.le_of_ble_eq_true rfl, Nat.le_of_ble_eq_true rfl, rfl, rfl⟩ ⟨Nat.zero_le _, Nat.zero_le _⟩ (Nat.le_of_ble_eq_true rfl) rfl rfl dX9_laysChildren_8 (fun r2 _ => ?_)
  refine g_istore_n (pc := 11) (i := 2) C dX9_laysChildren_11 rfl (Nat.le_of_ble_eq_true rfl) rfl ?_
  refine g_aload_n (pc := 12) (i := 0) C dX9_laysChildren_12 rfl rfl ?_
  refine g_iload_n (pc := 13) (i := 1) C dX9_laysChildren_13 rfl rfl ?_
  refine g_aload_n (pc := 14) (i := 0) C dX9_laysChildren_14 rfl rfl ?_
  refine g_getr (pc := 15) (ci := 9) (N := 27) (T := TX9) (j := 9) (Cn := RX9) (b + 7) C rfl inlX9 (Nat.le_of_ble_eq_true rfl) q_6_9 (blk hb 0 rfl) rfl dX9_laysChildren_15 ?_
  refine g_iconst (pc := 18) (v := 4) C dX9_laysChildren_18 (by decide) ?_
  refine g_iload_n (pc := 19) (i := 1) C dX9_laysChildren_19 rfl rfl ?_
  refine g_imul (pc := 20) C dX9_laysChildren_20 ?_
  refine g_iconst (pc := 21) (v := 2) C dX9_laysChildren_21 (by decide) ?_
  refine g_iadd (pc := 22) C dX9_laysChildren_22 ?_
  refine g_iload_n (pc := 23) (i := 2) C dX9_laysChildren_23 rfl rfl ?_
  refine g_iadd (pc := 24) C dX9_laysChildren_24 ?_
  refine g_iaload (pc := 25) C (blk hb 7 rfl) dX9_laysChildren_25 ?_
  refine g_callVv (pc := 26) (As := [.int (p1), .int (σ1.1 (b + 7) (((4 * p1) + 2) + r2).toNatClampNeg)]) C (kX9_laysShares X σ1 b p1 (σ1.1 (b + 7) (((4 * p1) + 2) + r2).toNatClampNeg) hb) (blk hb 0 rfl) rfl q_27_18 q_27_19 q_27_20 q_1_5 q_27_21 ⟨rfl, hdX9_laysShares⟩ ⟨Nat.le_of_ble_eq_true rfl, Nat.le_of_ble_eq_true rfl, rfl, rfl⟩ ⟨Nat.zero_le _, Nat.zero_le _⟩ (Nat.le_of_ble_eq_true rfl) rfl rfl dX9_laysChildren_26 (fun σ3 _ => ?_)
  refine g_aload_n (pc := 29) (i := 0) C dX9_laysChildren_29 rfl rfl ?_
  refine g_getr (pc := 30) (ci := 9) (N := 27) (T := TX9) (j := 9) (Cn := RX9) (b + 7) C rfl inlX9 (Nat.le_of_ble_eq_true rfl) q_6_9 (blk hb 0 rfl) rfl dX9_laysChildren_30 ?_
  refine g_iconst (pc := 33) (v := 4) C dX9_laysChildren_33 (by decide) ?_
  refine g_iload_n (pc := 34) (i := 1) C dX9_laysChildren_34 rfl rfl ?_
  refine g_imul (pc := 35) C dX9_laysChildren_35 ?_
  refine g_iload_n (pc := 36) (i := 2) C dX9_laysChildren_36 rfl rfl ?_
  refine g_iadd (pc := 37) C dX9_laysChildren_37 ?_
  refine g_iaload (pc := 38) C (blk hb 7 rfl) dX9_laysChildren_38 ?_
  refine g_nm (fun v4 => ?_)
  refine g_istore_n (pc := 39) (i := 3) C dX9_laysChildren_39 rfl (Nat.le_of_ble_eq_true rfl) rfl ?_
  refine g_iconst (pc := 40) (v := 0) C dX9_laysChildren_40 (by decide) ?_
  refine g_istore (pc := 41) C dX9_laysChildren_41 (Nat.le_of_ble_eq_true rfl) rfl ?_
  refine g_keep [true, true, true, true, true, false] ?_
  exact bX9_laysChildren_43 C hr b hb FU σ3 p1 r2 v4 0
theorem dX9_lays_0 : decode cX9_lays 0 = .ok (.aload_n 0, 1) := by decide +kernel
theorem dX9_lays_1 : decode cX9_lays 1 = .ok (.invokevirtual 181, 3) := by decide +kernel
theorem dX9_lays_4 : decode cX9_lays 4 = .ok (.bipush 24, 2) := by decide +kernel
theorem dX9_lays_6 : decode cX9_lays 6 = .ok (.istore_n 1, 1) := by decide +kernel
theorem dX9_lays_7 : decode cX9_lays 7 = .ok (.iload_n 1, 1) := by decide +kernel
theorem dX9_lays_8 : decode cX9_lays 8 = .ok (.ifCond .lt 47, 3) := by decide +kernel
theorem dX9_lays_11 : decode cX9_lays 11 = .ok (.iconst 0, 1) := by decide +kernel
theorem dX9_lays_12 : decode cX9_lays 12 = .ok (.istore_n 2, 1) := by decide +kernel
theorem dX9_lays_13 : decode cX9_lays 13 = .ok (.iload_n 2, 1) := by decide +kernel
theorem dX9_lays_14 : decode cX9_lays 14 = .ok (.bipush 24, 2) := by decide +kernel
theorem dX9_lays_16 : decode cX9_lays 16 = .ok (.if_icmp .ge 33, 3) := by decide +kernel
theorem dX9_lays_19 : decode cX9_lays 19 = .ok (.aload_n 0, 1) := by decide +kernel
theorem dX9_lays_20 : decode cX9_lays 20 = .ok (.iload_n 2, 1) := by decide +kernel
theorem dX9_lays_21 : decode cX9_lays 21 = .ok (.iconst 0, 1) := by decide +kernel
theorem dX9_lays_22 : decode cX9_lays 22 = .ok (.invokevirtual 76, 3) := by decide +kernel
theorem dX9_lays_25 : decode cX9_lays 25 = .ok (.ifCond .eq 18, 3) := by decide +kernel
theorem dX9_lays_28 : decode cX9_lays 28 = .ok (.aload_n 0, 1) := by decide +kernel
theorem dX9_lays_29 : decode cX9_lays 29 = .ok (.getfield 19, 3) := by decide +kernel
theorem dX9_lays_32 : decode cX9_lays 32 = .ok (.iload_n 2, 1) := by decide +kernel
theorem dX9_lays_33 : decode cX9_lays 33 = .ok (.iaload, 1) := by decide +kernel
theorem dX9_lays_34 : decode cX9_lays 34 = .ok (.iload_n 1, 1) := by decide +kernel
theorem dX9_lays_35 : decode cX9_lays 35 = .ok (.if_icmp .ne 8, 3) := by decide +kernel
theorem dX9_lays_38 : decode cX9_lays 38 = .ok (.aload_n 0, 1) := by decide +kernel
theorem dX9_lays_39 : decode cX9_lays 39 = .ok (.iload_n 2, 1) := by decide +kernel
theorem dX9_lays_40 : decode cX9_lays 40 = .ok (.invokevirtual 184, 3) := by decide +kernel
theorem dX9_lays_43 : decode cX9_lays 43 = .ok (.iinc 2 1, 3) := by decide +kernel
theorem dX9_lays_46 : decode cX9_lays 46 = .ok (.goto (-33), 3) := by decide +kernel
theorem dX9_lays_49 : decode cX9_lays 49 = .ok (.iinc 1 (-1), 3) := by decide +kernel
theorem dX9_lays_52 : decode cX9_lays 52 = .ok (.goto (-45), 3) := by decide +kernel
theorem dX9_lays_55 : decode cX9_lays 55 = .ok (.iconst 0, 1) := by decide +kernel
theorem dX9_lays_56 : decode cX9_lays 56 = .ok (.istore_n 1, 1) := by decide +kernel
theorem dX9_lays_57 : decode cX9_lays 57 = .ok (.iload_n 1, 1) := by decide +kernel
theorem dX9_lays_58 : decode cX9_lays 58 = .ok (.iconst 5, 1) := by decide +kernel
theorem dX9_lays_59 : decode cX9_lays 59 = .ok (.if_icmp .ge 66, 3) := by decide +kernel
theorem dX9_lays_62 : decode cX9_lays 62 = .ok (.aload_n 0, 1) := by decide +kernel
theorem dX9_lays_63 : decode cX9_lays 63 = .ok (.iload_n 1, 1) := by decide +kernel
theorem dX9_lays_64 : decode cX9_lays 64 = .ok (.invokevirtual 187, 3) := by decide +kernel
theorem dX9_lays_67 : decode cX9_lays 67 = .ok (.ifCond .eq 13, 3) := by decide +kernel
theorem dX9_lays_70 : decode cX9_lays 70 = .ok (.aload_n 0, 1) := by decide +kernel
theorem dX9_lays_71 : decode cX9_lays 71 = .ok (.iload_n 1, 1) := by decide +kernel
theorem dX9_lays_72 : decode cX9_lays 72 = .ok (.iconst 5, 1) := by decide +kernel
theorem dX9_lays_73 : decode cX9_lays 73 = .ok (.iconst 1, 1) := by decide +kernel
theorem dX9_lays_74 : decode cX9_lays 74 = .ok (.invokevirtual 72, 3) := by decide +kernel
theorem dX9_lays_77 : decode cX9_lays 77 = .ok (.goto 4, 3) := by decide +kernel
theorem dX9_lays_80 : decode cX9_lays 80 = .ok (.iconst (-1), 1) := by decide +kernel
theorem dX9_lays_81 : decode cX9_lays 81 = .ok (.istore_n 2, 1) := by decide +kernel
theorem dX9_lays_82 : decode cX9_lays 82 = .ok (.iconst 0, 1) := by decide +kernel
theorem dX9_lays_83 : decode cX9_lays 83 = .ok (.istore_n 3, 1) := by decide +kernel
theorem dX9_lays_84 : decode cX9_lays 84 = .ok (.iload_n 3, 1) := by decide +kernel
theorem dX9_lays_85 : decode cX9_lays 85 = .ok (.iconst 4, 1) := by decide +kernel
theorem dX9_lays_86 : decode cX9_lays 86 = .ok (.if_icmp .ge 33, 3) := by decide +kernel
theorem dX9_lays_89 : decode cX9_lays 89 = .ok (.iload_n 2, 1) := by decide +kernel
theorem dX9_lays_90 : decode cX9_lays 90 = .ok (.iconst (-1), 1) := by decide +kernel
theorem dX9_lays_91 : decode cX9_lays 91 = .ok (.if_icmp .eq 28, 3) := by decide +kernel
theorem dX9_lays_94 : decode cX9_lays 94 = .ok (.aload_n 0, 1) := by decide +kernel
theorem dX9_lays_95 : decode cX9_lays 95 = .ok (.getfield 29, 3) := by decide +kernel
theorem dX9_lays_98 : decode cX9_lays 98 = .ok (.iconst 4, 1) := by decide +kernel
theorem dX9_lays_99 : decode cX9_lays 99 = .ok (.iload_n 2, 1) := by decide +kernel
theorem dX9_lays_100 : decode cX9_lays 100 = .ok (.imul, 1) := by decide +kernel
theorem dX9_lays_101 : decode cX9_lays 101 = .ok (.iload_n 3, 1) := by decide +kernel
theorem dX9_lays_102 : decode cX9_lays 102 = .ok (.iadd, 1) := by decide +kernel
theorem dX9_lays_103 : decode cX9_lays 103 = .ok (.aload_n 0, 1) := by decide +kernel
theorem dX9_lays_104 : decode cX9_lays 104 = .ok (.iload_n 1, 1) := by decide +kernel
theorem dX9_lays_105 : decode cX9_lays 105 = .ok (.iconst 1, 1) := by decide +kernel
theorem dX9_lays_106 : decode cX9_lays 106 = .ok (.iload_n 3, 1) := by decide +kernel
theorem dX9_lays_107 : decode cX9_lays 107 = .ok (.iadd, 1) := by decide +kernel
theorem dX9_lays_108 : decode cX9_lays 108 = .ok (.iconst 1, 1) := by decide +kernel
theorem dX9_lays_109 : decode cX9_lays 109 = .ok (.invokevirtual 72, 3) := by decide +kernel
theorem dX9_lays_112 : decode cX9_lays 112 = .ok (.iastore, 1) := by decide +kernel
theorem dX9_lays_113 : decode cX9_lays 113 = .ok (.iinc 3 1, 3) := by decide +kernel
theorem dX9_lays_116 : decode cX9_lays 116 = .ok (.goto (-32), 3) := by decide +kernel
theorem dX9_lays_119 : decode cX9_lays 119 = .ok (.iinc 1 1, 3) := by decide +kernel
theorem dX9_lays_122 : decode cX9_lays 122 = .ok (.goto (-65), 3) := by decide +kernel
theorem dX9_lays_125 : decode cX9_lays 125 = .ok (.iconst 0, 1) := by decide +kernel
theorem dX9_lays_126 : decode cX9_lays 126 = .ok (.istore_n 1, 1) := by decide +kernel
theorem dX9_lays_127 : decode cX9_lays 127 = .ok (.iload_n 1, 1) := by decide +kernel
theorem dX9_lays_128 : decode cX9_lays 128 = .ok (.bipush 24, 2) := by decide +kernel
theorem dX9_lays_130 : decode cX9_lays 130 = .ok (.if_icmp .ge 57, 3) := by decide +kernel
theorem dX9_lays_133 : decode cX9_lays 133 = .ok (.iconst 0, 1) := by decide +kernel
theorem dX9_lays_134 : decode cX9_lays 134 = .ok (.istore_n 2, 1) := by decide +kernel
theorem dX9_lays_135 : decode cX9_lays 135 = .ok (.iload_n 2, 1) := by decide +kernel
theorem dX9_lays_136 : decode cX9_lays 136 = .ok (.bipush 24, 2) := by decide +kernel
theorem dX9_lays_138 : decode cX9_lays 138 = .ok (.if_icmp .ge 43, 3) := by decide +kernel
theorem dX9_lays_141 : decode cX9_lays 141 = .ok (.aload_n 0, 1) := by decide +kernel
theorem dX9_lays_142 : decode cX9_lays 142 = .ok (.iload_n 2, 1) := by decide +kernel
theorem dX9_lays_143 : decode cX9_lays 143 = .ok (.iconst 0, 1) := by decide +kernel
theorem dX9_lays_144 : decode cX9_lays 144 = .ok (.invokevirtual 76, 3) := by decide +kernel
theorem dX9_lays_147 : decode cX9_lays 147 = .ok (.iconst 1, 1) := by decide +kernel
theorem dX9_lays_148 : decode cX9_lays 148 = .ok (.if_icmp .ne 27, 3) := by decide +kernel
theorem dX9_lays_151 : decode cX9_lays 151 = .ok (.aload_n 0, 1) := by decide +kernel
theorem dX9_lays_152 : decode cX9_lays 152 = .ok (.getfield 19, 3) := by decide +kernel
theorem dX9_lays_155 : decode cX9_lays 155 = .ok (.iload_n 2, 1) := by decide +kernel
theorem dX9_lays_156 : decode cX9_lays 156 = .ok (.iaload, 1) := by decide +kernel
theorem dX9_lays_157 : decode cX9_lays 157 = .ok (.iload_n 1, 1) := by decide +kernel
theorem dX9_lays_158 : decode cX9_lays 158 = .ok (.if_icmp .ne 17, 3) := by decide +kernel
theorem dX9_lays_161 : decode cX9_lays 161 = .ok (.aload_n 0, 1) := by decide +kernel
theorem dX9_lays_162 : decode cX9_lays 162 = .ok (.getfield 22, 3) := by decide +kernel
theorem dX9_lays_165 : decode cX9_lays 165 = .ok (.iload_n 2, 1) := by decide +kernel
theorem dX9_lays_166 : decode cX9_lays 166 = .ok (.baload, 1) := by decide +kernel
theorem dX9_lays_167 : decode cX9_lays 167 = .ok (.ifCond .eq 8, 3) := by decide +kernel
theorem dX9_lays_170 : decode cX9_lays 170 = .ok (.aload_n 0, 1) := by decide +kernel
theorem dX9_lays_171 : decode cX9_lays 171 = .ok (.iload_n 2, 1) := by decide +kernel
theorem dX9_lays_172 : decode cX9_lays 172 = .ok (.invokevirtual 190, 3) := by decide +kernel
theorem dX9_lays_175 : decode cX9_lays 175 = .ok (.iinc 2 1, 3) := by decide +kernel
theorem dX9_lays_178 : decode cX9_lays 178 = .ok (.goto (-43), 3) := by decide +kernel
theorem dX9_lays_181 : decode cX9_lays 181 = .ok (.iinc 1 1, 3) := by decide +kernel
theorem dX9_lays_184 : decode cX9_lays 184 = .ok (.goto (-57), 3) := by decide +kernel
theorem dX9_lays_187 : decode cX9_lays 187 = .ok (.return_, 1) := by decide +kernel
abbrev rmX9_lays : Room := { frames := 7, cells := 0, slots := 0, locals := 182 }
theorem hdX9_lays : yX9_lays.cls ≠ "java/lang/invoke/MethodHandle" ∧ yX9_lays.cls ≠ "java/lang/invoke/VarHandle" ∧ (parseMethodDescriptor yX9_lays.desc).map (fun d => d.parameters.length) = some 0 := by decide +kernel
def fX9_lays_175 (b : Nat) (k127 : Sg → Int32 → Option Sg) (k135 : Sg → Int32 → Int32 → Option Sg) (σ : Sg) (l1 : Int32) (l2 : Int32) : Option Sg :=
  (k135 σ l1 (l2 + 1))
theorem bX9_lays_175 {X : Xc} {K : Kc} (C : MC X K cX9_lays 4 RX9 rmX9_lays) (hr : K.meth.sig.returnType = none) (b : Nat) (hb : moOK b){k127 : Sg → Int32 → Option Sg} {k135 : Sg → Int32 → Int32 → Option Sg} (hk127 : ∀ (σ : Sg) (l1 : Int32), GO X K 4 (fun r => MQv X K r) (k127 σ l1) σ 0 0 127 [some (.ref (X.ad b)), some (.int (l1)), none, none] []) (hk135 : ∀ (σ : Sg) (l1 : Int32) (l2 : Int32), GO X K 4 (fun r => MQv X K r) (k135 σ l1 l2) σ 0 0 135 [some (.ref (X.ad b)), some (.int (l1)), some (.int (l2)), none] []) (σ : Sg) (l1 : Int32) (l2 : Int32) : GO X K 4 (fun r => MQv X K r) (fX9_lays_175 b k127 k135 σ l1 l2) σ 0 0 175 [some (.ref (X.ad b)), some (.int (l1)), some (.int (l2)), none] [] := by
  unfold fX9_lays_175
  refine g_iinc (pc := 175) (v := l2 + 1) C dX9_lays_175 rfl (rfl) (Nat.le_of_ble_eq_true rfl) rfl ?_
  refine g_goto (pc := 178) (tgt := 135) C dX9_lays_178 rfl ?_
  refine g_keep [true, true, true, false] ?_
  exact hk135 σ l1 (l2 + 1)
def fX9_lays_135 (b : Nat) (k127 : Sg → Int32 → Option Sg) : Nat → Sg → Int32 → Int32 → Option Sg
  | 0, _, _, _ => none
  | n + 1, σ, l1, l2 =>
    if 24 ≤ l2 then
      (k127 σ (l1 + 1))
    else
      (fX9_its σ b l2 0).bind fun r4 =>
      if r4 = 1 then
        if ck l2 24 then
          if (σ.1 (b + 4) l2.toNatClampNeg) = l1 then
            if ck l2 24 then
              if (σ.1 (b + 5) l2.toNatClampNeg) = 0 then
                (fX9_lays_175 b k127 (fX9_lays_135 b k127 n) σ l1 l2)
              else
                (fX9_laysChildren σ b l2).bind fun σ5 =>
                (fX9_lays_175 b k127 (fX9_lays_135 b k127 n) σ5 l1 l2)
            else none
          else
            (fX9_lays_175 b k127 (fX9_lays_135 b k127 n) σ l1 l2)
        else none
      else
        (fX9_lays_175 b k127 (fX9_lays_135 b k127 n) σ l1 l2)
theorem bX9_lays_135 {X : Xc} {K : Kc} (C : MC X K cX9_lays 4 RX9 rmX9_lays) (hr : K.meth.sig.returnType = none) (b : Nat) (hb : moOK b){k127 : Sg → Int32 → Option Sg} (hk127 : ∀ (σ : Sg) (l1 : Int32), GO X K 4 (fun r => MQv X K r) (k127 σ l1) σ 0 0 127 [some (.ref (X.ad b)), some (.int (l1)), none, none] []) : ∀ (n : Nat) (σ : Sg) (l1 : Int32) (l2 : Int32), GO X K 4 (fun r => MQv X K r) (fX9_lays_135 b k127 n σ l1 l2) σ 0 0 135 [some (.ref (X.ad b)), some (.int (l1)), some (.int (l2)), none] [] := by
  intro n
  induction n with
  | zero =>
    intro σ l1 l2
    exact g_none
  | succ n ih =>
    intro σ l1 l2
    unfold fX9_lays_135
    refine g_iload_n (pc := 135) (i := 2) C dX9_lays_135 rfl rfl ?_
    refine g_bipush (pc := 136) (v := 24) C dX9_lays_136 (by decide) ?_
    refine g_icmp_ge (pc := 138) (tgt := 181) C dX9_lays_138 rfl ?_ ?_
    · refine g_iinc (pc := 181) (v := l1 + 1) C dX9_lays_181 rfl (rfl) (Nat.le_of_ble_eq_true rfl) rfl ?_
      refine g_goto (pc := 184) (tgt := 127) C dX9_lays_184 rfl ?_
      refine g_keep [true, true, false, false] ?_
      exact hk127 σ (l1 + 1)
    · refine g_aload_n (pc := 141) (i := 0) C dX9_lays_141 rfl rfl ?_
      refine g_iload_n (pc := 142) (i := 2) C dX9_lays_142 rfl rfl ?_
      refine g_iconst (pc := 143) (v := 0) C dX9_lays_143 (by decide) ?_
      refine g_callVi (pc := 144) (As := [.int (l2), .int (0)]) C (kX9_its X σ b l2 0 hb) (blk hb 0 rfl) rfl q_20_12 q_20_13 q_20_14 q_1_5 q_20_15 ⟨rfl, hdX9_its⟩ ⟨Nat.le_of_ble_eq_true rfl, Nat.le_of_ble_eq_true rfl, rfl, rfl⟩ ⟨Nat.zero_le _, Nat.zero_le _⟩ (Nat.le_of_ble_eq_true rfl) rfl rfl dX9_lays_144 (fun r4 _ => ?_)
      refine g_iconst (pc := 147) (v := 1) C dX9_lays_147 (by decide) ?_
      refine g_icmp_ne (pc := 148) (tgt := 175) C dX9_lays_148 rfl ?_ ?_
      · refine g_aload_n (pc := 151) (i := 0) C dX9_lays_151 rfl rfl ?_
        refine g_getr (pc := 152) (ci := 9) (N := 27) (T := TX9) (j := 6) (Cn := RX9) (b + 4) C rfl inlX9 (Nat.le_of_ble_eq_true rfl) q_6_5 (blk hb 0 rfl) rfl dX9_lays_152 ?_
        refine g_iload_n (pc := 155) (i := 2) C dX9_lays_155 rfl rfl ?_
        refine g_iaload (pc := 156) C (blk hb 4 rfl) dX9_lays_156 ?_
        refine g_iload_n (pc := 157) (i := 1) C dX9_lays_157 rfl rfl ?_
        refine g_icmp_ne (pc := 158) (tgt := 175) C dX9_lays_158 rfl ?_ ?_
        · refine g_aload_n (pc := 161) (i := 0) C dX9_lays_161 rfl rfl ?_
          refine g_getr (pc := 162) (ci := 9) (N := 27) (T := TX9) (j := 7) (Cn := RX9) (b + 5) C rfl inlX9 (Nat.le_of_ble_eq_true rfl) q_6_7 (blk hb 0 rfl) rfl dX9_lays_162 ?_
          refine g_iload_n (pc := 165) (i := 2) C dX9_lays_165 rfl rfl ?_
          refine g_baload (pc := 166) C (blk hb 5 rfl) dX9_lays_166 ?_
          refine g_if_eq (pc := 167) (tgt := 175) C dX9_lays_167 rfl ?_ ?_
          · refine g_keep [true, true, true, false] ?_
            exact bX9_lays_175 C hr b hb hk127 ih σ l1 l2
          · refine g_aload_n (pc := 170) (i := 0) C dX9_lays_170 rfl rfl ?_
            refine g_iload_n (pc := 171) (i := 2) C dX9_lays_171 rfl rfl ?_
            refine g_callVv (pc := 172) (As := [.int (l2)]) C (kX9_laysChildren X σ b l2 hb) (blk hb 0 rfl) rfl q_27_13 q_27_14 q_27_15 q_1_5 q_27_16 ⟨rfl, hdX9_laysChildren⟩ ⟨Nat.le_of_ble_eq_true rfl, Nat.le_of_ble_eq_true rfl, rfl, rfl⟩ ⟨Nat.zero_le _, Nat.zero_le _⟩ (Nat.le_of_ble_eq_true rfl) rfl rfl dX9_lays_172 (fun σ5 _ => ?_)
            refine g_keep [true, true, true, false] ?_
            exact bX9_lays_175 C hr b hb hk127 ih σ5 l1 l2
        · refine g_keep [true, true, true, false] ?_
          exact bX9_lays_175 C hr b hb hk127 ih σ l1 l2
      · refine g_keep [true, true, true, false] ?_
        exact bX9_lays_175 C hr b hb hk127 ih σ l1 l2
def fX9_lays_127 (b : Nat) : Nat → Sg → Int32 → Option Sg
  | 0, _, _ => none
  | n + 1, σ, l1 =>
    if 24 ≤ l1 then
      some σ
    else
      (fX9_lays_135 b (fX9_lays_127 b n) FU σ l1 0)
theorem bX9_lays_127 {X : Xc} {K : Kc} (C : MC X K cX9_lays 4 RX9 rmX9_lays) (hr : K.meth.sig.returnType = none) (b : Nat) (hb : moOK b) : ∀ (n : Nat) (σ : Sg) (l1 : Int32), GO X K 4 (fun r => MQv X K r) (fX9_lays_127 b n σ l1) σ 0 0 127 [some (.ref (X.ad b)), some (.int (l1)), none, none] [] := by
  intro n
  induction n with
  | zero =>
    intro σ l1
    exact g_none
  | succ n ih =>
    intro σ l1
    unfold fX9_lays_127
    refine g_iload_n (pc := 127) (i := 1) C dX9_lays_127 rfl rfl ?_
    refine g_bipush (pc := 128) (v := 24) C dX9_lays_128 (by decide) ?_
    refine g_icmp_ge (pc := 130) (tgt := 187) C dX9_lays_130 rfl ?_ ?_
    · exact g_vret (pc := 187) C hr dX9_lays_187 rfl
    · refine g_iconst (pc := 133) (v := 0) C dX9_lays_133 (by decide) ?_
      refine g_istore_n (pc := 134) (i := 2) C dX9_lays_134 rfl (Nat.le_of_ble_eq_true rfl) rfl ?_
      refine g_keep [true, true, true, false] ?_
      exact bX9_lays_135 C hr b hb ih FU σ l1 0
def fX9_lays_119 (b : Nat) (k57 : Sg → Int32 → Option Sg) (σ : Sg) (l1 : Int32) : Option Sg :=
  (k57 σ (l1 + 1))
theorem bX9_lays_119 {X : Xc} {K : Kc} (C : MC X K cX9_lays 4 RX9 rmX9_lays) (hr : K.meth.sig.returnType = none) (b : Nat) (hb : moOK b){k57 : Sg → Int32 → Option Sg} (hk57 : ∀ (σ : Sg) (l1 : Int32), GO X K 4 (fun r => MQv X K r) (k57 σ l1) σ 0 0 57 [some (.ref (X.ad b)), some (.int (l1)), none, none] []) (σ : Sg) (l1 : Int32) : GO X K 4 (fun r => MQv X K r) (fX9_lays_119 b k57 σ l1) σ 0 0 119 [some (.ref (X.ad b)), some (.int (l1)), none, none] [] := by
  unfold fX9_lays_119
  refine g_iinc (pc := 119) (v := l1 + 1) C dX9_lays_119 rfl (rfl) (Nat.le_of_ble_eq_true rfl) rfl ?_
  refine g_goto (pc := 122) (tgt := 57) C dX9_lays_122 rfl ?_
  refine g_keep [true, true, false, false] ?_
  exact hk57 σ (l1 + 1)
def fX9_lays_84 (b : Nat) (k57 : Sg → Int32 → Option Sg) : Nat → Sg → Int32 → Int32 → Int32 → Option Sg
  | 0, _, _, _, _ => none
  | n + 1, σ, l1, l2, l3 =>
    if 4 ≤ l3 then
      (fX9_lays_119 b k57 σ l1)
    else
      if l2 = (-1) then
        (fX9_lays_119 b k57 σ l1)
      else
        (fX9_window σ b l1 (1 + l3) 1).bind fun r6 =>
        if ck ((4 * l2) + l3) 96 then
          nm (su σ (b + 7) ((4 * l2) + l3).toNatClampNeg r6) fun σ7 =>
          ((fX9_lays_84 b k57 n) σ7 l1 l2 (l3 + 1))
        else none
theorem bX9_lays_84 {X : Xc} {K : Kc} (C : MC X K cX9_lays 4 RX9 rmX9_lays) (hr : K.meth.sig.returnType = none) (b : Nat) (hb : moOK b){k57 : Sg → Int32 → Option Sg} (hk57 : ∀ (σ : Sg) (l1 : Int32), GO X K 4 (fun r => MQv X K r) (k57 σ l1) σ 0 0 57 [some (.ref (X.ad b)), some (.int (l1)), none, none] []) : ∀ (n : Nat) (σ : Sg) (l1 : Int32) (l2 : Int32) (l3 : Int32), GO X K 4 (fun r => MQv X K r) (fX9_lays_84 b k57 n σ l1 l2 l3) σ 0 0 84 [some (.ref (X.ad b)), some (.int (l1)), some (.int (l2)), some (.int (l3))] [] := by
  intro n
  induction n with
  | zero =>
    intro σ l1 l2 l3
    exact g_none
  | succ n ih =>
    intro σ l1 l2 l3
    unfold fX9_lays_84
    refine g_iload_n (pc := 84) (i := 3) C dX9_lays_84 rfl rfl ?_
    refine g_iconst (pc := 85) (v := 4) C dX9_lays_85 (by decide) ?_
    refine g_icmp_ge (pc := 86) (tgt := 119) C dX9_lays_86 rfl ?_ ?_
    · refine g_keep [true, true, false, false] ?_
      exact bX9_lays_119 C hr b hb hk57 σ l1
    · refine g_iload_n (pc := 89) (i := 2) C dX9_lays_89 rfl rfl ?_
      refine g_iconst (pc := 90) (v := (-1)) C dX9_lays_90 (by decide) ?_
      refine g_icmp_eq (pc := 91) (tgt := 119) C dX9_lays_91 rfl ?_ ?_
      · refine g_keep [true, true, false, false] ?_
        exact bX9_lays_119 C hr b hb hk57 σ l1
      · refine g_aload_n (pc := 94) (i := 0) C dX9_lays_94 rfl rfl ?_
        refine g_getr (pc := 95) (ci := 9) (N := 27) (T := TX9) (j := 9) (Cn := RX9) (b + 7) C rfl inlX9 (Nat.le_of_ble_eq_true rfl) q_6_9 (blk hb 0 rfl) rfl dX9_lays_95 ?_
        refine g_iconst (pc := 98) (v := 4) C dX9_lays_98 (by decide) ?_
        refine g_iload_n (pc := 99) (i := 2) C dX9_lays_99 rfl rfl ?_
        refine g_imul (pc := 100) C dX9_lays_100 ?_
        refine g_iload_n (pc := 101) (i := 3) C dX9_lays_101 rfl rfl ?_
        refine g_iadd (pc := 102) C dX9_lays_102 ?_
        refine g_aload_n (pc := 103) (i := 0) C dX9_lays_103 rfl rfl ?_
        refine g_iload_n (pc := 104) (i := 1) C dX9_lays_104 rfl rfl ?_
        refine g_iconst (pc := 105) (v := 1) C dX9_lays_105 (by decide) ?_
        refine g_iload_n (pc := 106) (i := 3) C dX9_lays_106 rfl rfl ?_
        refine g_iadd (pc := 107) C dX9_lays_107 ?_
        refine g_iconst (pc := 108) (v := 1) C dX9_lays_108 (by decide) ?_
        refine g_callVi (pc := 109) (As := [.int (l1), .int (1 + l3), .int (1)]) C (kX9_window X σ b l1 (1 + l3) 1 hb) (blk hb 0 rfl) rfl q_22_12 q_22_13 q_22_14 q_1_5 q_22_15 ⟨rfl, hdX9_window⟩ ⟨Nat.le_of_ble_eq_true rfl, Nat.le_of_ble_eq_true rfl, rfl, rfl⟩ ⟨Nat.zero_le _, Nat.zero_le _⟩ (Nat.le_of_ble_eq_true rfl) rfl rfl dX9_lays_109 (fun r6 _ => ?_)
        refine g_iastore (pc := 112) C (blk hb 7 rfl) dX9_lays_112 ?_
        refine g_nms (fun σ7 => ?_)
        refine g_iinc (pc := 113) (v := l3 + 1) C dX9_lays_113 rfl (rfl) (Nat.le_of_ble_eq_true rfl) rfl ?_
        refine g_goto (pc := 116) (tgt := 84) C dX9_lays_116 rfl ?_
        refine g_keep [true, true, true, true] ?_
        exact ih σ7 l1 l2 (l3 + 1)
def fX9_lays_81 (b : Nat) (k57 : Sg → Int32 → Option Sg) (σ : Sg) (l1 : Int32) (s0 : Int32) : Option Sg :=
  (fX9_lays_84 b k57 FU σ l1 s0 0)
theorem bX9_lays_81 {X : Xc} {K : Kc} (C : MC X K cX9_lays 4 RX9 rmX9_lays) (hr : K.meth.sig.returnType = none) (b : Nat) (hb : moOK b){k57 : Sg → Int32 → Option Sg} (hk57 : ∀ (σ : Sg) (l1 : Int32), GO X K 4 (fun r => MQv X K r) (k57 σ l1) σ 0 0 57 [some (.ref (X.ad b)), some (.int (l1)), none, none] []) (σ : Sg) (l1 : Int32) (s0 : Int32) : GO X K 4 (fun r => MQv X K r) (fX9_lays_81 b k57 σ l1 s0) σ 0 0 81 [some (.ref (X.ad b)), some (.int (l1)), none, none] [.int (s0)] := by
  unfold fX9_lays_81
  refine g_istore_n (pc := 81) (i := 2) C dX9_lays_81 rfl (Nat.le_of_ble_eq_true rfl) rfl ?_
  refine g_iconst (pc := 82) (v := 0) C dX9_lays_82 (by decide) ?_
  refine g_istore_n (pc := 83) (i := 3) C dX9_lays_83 rfl (Nat.le_of_ble_eq_true rfl) rfl ?_
  refine g_keep [true, true, true, true] ?_
  exact bX9_lays_84 C hr b hb hk57 FU σ l1 s0 0
def fX9_lays_57 (b : Nat) : Nat → Sg → Int32 → Option Sg
  | 0, _, _ => none
  | n + 1, σ, l1 =>
    if 5 ≤ l1 then
      (fX9_lays_127 b FU σ 0)
    else
      (fX9_isWindow σ b l1).bind fun r2 =>
      if r2 = true then
        (fX9_window σ b l1 5 1).bind fun r3 =>
        (fX9_lays_81 b (fX9_lays_57 b n) σ l1 r3)
      else
        (fX9_lays_81 b (fX9_lays_57 b n) σ l1 (-1))
theorem bX9_lays_57 {X : Xc} {K : Kc} (C : MC X K cX9_lays 4 RX9 rmX9_lays) (hr : K.meth.sig.returnType = none) (b : Nat) (hb : moOK b) : ∀ (n : Nat) (σ : Sg) (l1 : Int32), GO X K 4 (fun r => MQv X K r) (fX9_lays_57 b n σ l1) σ 0 0 57 [some (.ref (X.ad b)), some (.int (l1)), none, none] [] := by
  intro n
  induction n with
  | zero =>
    intro σ l1
    exact g_none
  | succ n ih =>
    intro σ l1
    unfold fX9_lays_57
    refine g_iload_n (pc := 57) (i := 1) C dX9_lays_57 rfl rfl ?_
    refine g_iconst (pc := 58) (v := 5) C dX9_lays_58 (by decide) ?_
    refine g_icmp_ge (pc := 59) (tgt := 125) C dX9_lays_59 rfl ?_ ?_
    · refine g_iconst (pc := 125) (v := 0) C dX9_lays_125 (by decide) ?_
      refine g_istore_n (pc := 126) (i := 1) C dX9_lays_126 rfl (Nat.le_of_ble_eq_true rfl) rfl ?_
      refine g_keep [true, true, false, false] ?_
      exact bX9_lays_127 C hr b hb FU σ 0
    · refine g_aload_n (pc := 62) (i := 0) C dX9_lays_62 rfl rfl ?_
      refine g_iload_n (pc := 63) (i := 1) C dX9_lays_63 rfl rfl ?_
      refine g_callVi (pc := 64) (As := [.int (l1)]) C (kX9_isWindow X σ b l1 hb) (blk hb 0 rfl) rfl q_27_9 q_27_10 q_27_11 q_1_5 q_27_12 ⟨rfl, hdX9_isWindow⟩ ⟨Nat.le_of_ble_eq_true rfl, Nat.le_of_ble_eq_true rfl, rfl, rfl⟩ ⟨Nat.zero_le _, Nat.zero_le _⟩ (Nat.le_of_ble_eq_true rfl) rfl rfl dX9_lays_64 (fun r2 _ => ?_)
      refine g_ifb_eq (pc := 67) (tgt := 80) C dX9_lays_67 rfl ?_ ?_
      · refine g_aload_n (pc := 70) (i := 0) C dX9_lays_70 rfl rfl ?_
        refine g_iload_n (pc := 71) (i := 1) C dX9_lays_71 rfl rfl ?_
        refine g_iconst (pc := 72) (v := 5) C dX9_lays_72 (by decide) ?_
        refine g_iconst (pc := 73) (v := 1) C dX9_lays_73 (by decide) ?_
        refine g_callVi (pc := 74) (As := [.int (l1), .int (5), .int (1)]) C (kX9_window X σ b l1 5 1 hb) (blk hb 0 rfl) rfl q_22_12 q_22_13 q_22_14 q_1_5 q_22_15 ⟨rfl, hdX9_window⟩ ⟨Nat.le_of_ble_eq_true rfl, Nat.le_of_ble_eq_true rfl, rfl, rfl⟩ ⟨Nat.zero_le _, Nat.zero_le _⟩ (Nat.le_of_ble_eq_true rfl) rfl rfl dX9_lays_74 (fun r3 _ => ?_)
        refine g_goto (pc := 77) (tgt := 81) C dX9_lays_77 rfl ?_
        refine g_keep [true, true, false, false] ?_
        exact bX9_lays_81 C hr b hb ih σ l1 r3
      · refine g_iconst (pc := 80) (v := (-1)) C dX9_lays_80 (by decide) ?_
        refine g_keep [true, true, false, false] ?_
        exact bX9_lays_81 C hr b hb ih σ l1 (-1)
def fX9_lays_43 (b : Nat) (k7 : Sg → Int32 → Option Sg) (k13 : Sg → Int32 → Int32 → Option Sg) (σ : Sg) (l1 : Int32) (l2 : Int32) : Option Sg :=
  (k13 σ l1 (l2 + 1))
theorem bX9_lays_43 {X : Xc} {K : Kc} (C : MC X K cX9_lays 4 RX9 rmX9_lays) (hr : K.meth.sig.returnType = none) (b : Nat) (hb : moOK b){k7 : Sg → Int32 → Option Sg} {k13 : Sg → Int32 → Int32 → Option Sg} (hk7 : ∀ (σ : Sg) (l1 : Int32), GO X K 4 (fun r => MQv X K r) (k7 σ l1) σ 0 0 7 [some (.ref (X.ad b)), some (.int (l1)), none, none] []) (hk13 : ∀ (σ : Sg) (l1 : Int32) (l2 : Int32), GO X K 4 (fun r => MQv X K r) (k13 σ l1 l2) σ 0 0 13 [some (.ref (X.ad b)), some (.int (l1)), some (.int (l2)), none] []) (σ : Sg) (l1 : Int32) (l2 : Int32) : GO X K 4 (fun r => MQv X K r) (fX9_lays_43 b k7 k13 σ l1 l2) σ 0 0 43 [some (.ref (X.ad b)), some (.int (l1)), some (.int (l2)), none] [] := by
  unfold fX9_lays_43
  refine g_iinc (pc := 43) (v := l2 + 1) C dX9_lays_43 rfl (rfl) (Nat.le_of_ble_eq_true rfl) rfl ?_
  refine g_goto (pc := 46) (tgt := 13) C dX9_lays_46 rfl ?_
  refine g_keep [true, true, true, false] ?_
  exact hk13 σ l1 (l2 + 1)
def fX9_lays_13 (b : Nat) (k7 : Sg → Int32 → Option Sg) : Nat → Sg → Int32 → Int32 → Option Sg
  | 0, _, _, _ => none
  | n + 1, σ, l1, l2 =>
    if 24 ≤ l2 then
      (k7 σ (l1 + (-1)))
    else
      (fX9_its σ b l2 0).bind fun r8 =>
      if r8 = 0 then
        (fX9_lays_43 b k7 (fX9_lays_13 b k7 n) σ l1 l2)
      else
        if ck l2 24 then
          if (σ.1 (b + 4) l2.toNatClampNeg) = l1 then
            (fX9_laysLeast σ b l2).bind fun σ9 =>
            (fX9_lays_43 b k7 (fX9_lays_13 b k7 n) σ9 l1 l2)
          else
            (fX9_lays_43 b k7 (fX9_lays_13 b k7 n) σ l1 l2)
        else none
theorem bX9_lays_13 {X : Xc} {K : Kc} (C : MC X K cX9_lays 4 RX9 rmX9_lays) (hr : K.meth.sig.returnType = none) (b : Nat) (hb : moOK b){k7 : Sg → Int32 → Option Sg} (hk7 : ∀ (σ : Sg) (l1 : Int32), GO X K 4 (fun r => MQv X K r) (k7 σ l1) σ 0 0 7 [some (.ref (X.ad b)), some (.int (l1)), none, none] []) : ∀ (n : Nat) (σ : Sg) (l1 : Int32) (l2 : Int32), GO X K 4 (fun r => MQv X K r) (fX9_lays_13 b k7 n σ l1 l2) σ 0 0 13 [some (.ref (X.ad b)), some (.int (l1)), some (.int (l2)), none] [] := by
  intro n
  induction n with
  | zero =>
    intro σ l1 l2
    exact g_none
  | succ n ih =>
    intro σ l1 l2
    unfold fX9_lays_13
    refine g_iload_n (pc := 13) (i := 2) C dX9_lays_13 rfl rfl ?_
    refine g_bipush (pc := 14) (v := 24) C dX9_lays_14 (by decide) ?_
    refine g_icmp_ge (pc := 16) (tgt := 49) C dX9_lays_16 rfl ?_ ?_
    · refine g_iinc (pc := 49) (v := l1 + (-1)) C dX9_lays_49 rfl (rfl) (Nat.le_of_ble_eq_true rfl) rfl ?_
      refine g_goto (pc := 52) (tgt := 7) C dX9_lays_52 rfl ?_
      refine g_keep [true, true, false, false] ?_
      exact hk7 σ (l1 + (-1))
    · refine g_aload_n (pc := 19) (i := 0) C dX9_lays_19 rfl rfl ?_
      refine g_iload_n (pc := 20) (i := 2) C dX9_lays_20 rfl rfl ?_
      refine g_iconst (pc := 21) (v := 0) C dX9_lays_21 (by decide) ?_
      refine g_callVi (pc := 22) (As := [.int (l2), .int (0)]) C (kX9_its X σ b l2 0 hb) (blk hb 0 rfl) rfl q_20_12 q_20_13 q_20_14 q_1_5 q_20_15 ⟨rfl, hdX9_its⟩ ⟨Nat.le_of_ble_eq_true rfl, Nat.le_of_ble_eq_true rfl, rfl, rfl⟩ ⟨Nat.zero_le _, Nat.zero_le _⟩ (Nat.le_of_ble_eq_true rfl) rfl rfl dX9_lays_22 (fun r8 _ => ?_)
      refine g_if_eq (pc := 25) (tgt := 43) C dX9_lays_25 rfl ?_ ?_
      · refine g_keep [true, true, true, false] ?_
        exact bX9_lays_43 C hr b hb hk7 ih σ l1 l2
      · refine g_aload_n (pc := 28) (i := 0) C dX9_lays_28 rfl rfl ?_
        refine g_getr (pc := 29) (ci := 9) (N := 27) (T := TX9) (j := 6) (Cn := RX9) (b + 4) C rfl inlX9 (Nat.le_of_ble_eq_true rfl) q_6_5 (blk hb 0 rfl) rfl dX9_lays_29 ?_
        refine g_iload_n (pc := 32) (i := 2) C dX9_lays_32 rfl rfl ?_
        refine g_iaload (pc := 33) C (blk hb 4 rfl) dX9_lays_33 ?_
        refine g_iload_n (pc := 34) (i := 1) C dX9_lays_34 rfl rfl ?_
        refine g_icmp_ne (pc := 35) (tgt := 43) C dX9_lays_35 rfl ?_ ?_
        · refine g_aload_n (pc := 38) (i := 0) C dX9_lays_38 rfl rfl ?_
          refine g_iload_n (pc := 39) (i := 2) C dX9_lays_39 rfl rfl ?_
          refine g_callVv (pc := 40) (As := [.int (l2)]) C (kX9_laysLeast X σ b l2 hb) (blk hb 0 rfl) rfl q_27_5 q_27_6 q_27_7 q_1_5 q_27_8 ⟨rfl, hdX9_laysLeast⟩ ⟨Nat.le_of_ble_eq_true rfl, Nat.le_of_ble_eq_true rfl, rfl, rfl⟩ ⟨Nat.zero_le _, Nat.zero_le _⟩ (Nat.le_of_ble_eq_true rfl) rfl rfl dX9_lays_40 (fun σ9 _ => ?_)
          refine g_keep [true, true, true, false] ?_
          exact bX9_lays_43 C hr b hb hk7 ih σ9 l1 l2
        · refine g_keep [true, true, true, false] ?_
          exact bX9_lays_43 C hr b hb hk7 ih σ l1 l2
def fX9_lays_7 (b : Nat) : Nat → Sg → Int32 → Option Sg
  | 0, _, _ => none
  | n + 1, σ, l1 =>
    if l1 < 0 then
      (fX9_lays_57 b FU σ 0)
    else
      (fX9_lays_13 b (fX9_lays_7 b n) FU σ l1 0)
theorem bX9_lays_7 {X : Xc} {K : Kc} (C : MC X K cX9_lays 4 RX9 rmX9_lays) (hr : K.meth.sig.returnType = none) (b : Nat) (hb : moOK b) : ∀ (n : Nat) (σ : Sg) (l1 : Int32), GO X K 4 (fun r => MQv X K r) (fX9_lays_7 b n σ l1) σ 0 0 7 [some (.ref (X.ad b)), some (.int (l1)), none, none] [] := by
  intro n
  induction n with
  | zero =>
    intro σ l1
    exact g_none
  | succ n ih =>
    intro σ l1
    unfold fX9_lays_7
    refine g_iload_n (pc := 7) (i := 1) C dX9_lays_7 rfl rfl ?_
    refine g_if_lt (pc := 8) (tgt := 55) C dX9_lays_8 rfl ?_ ?_
    · refine g_iconst (pc := 55) (v := 0) C dX9_lays_55 (by decide) ?_
      refine g_istore_n (pc := 56) (i := 1) C dX9_lays_56 rfl (Nat.le_of_ble_eq_true rfl) rfl ?_
      refine g_keep [true, true, false, false] ?_
      exact bX9_lays_57 C hr b hb FU σ 0
    · refine g_iconst (pc := 11) (v := 0) C dX9_lays_11 (by decide) ?_
      refine g_istore_n (pc := 12) (i := 2) C dX9_lays_12 rfl (Nat.le_of_ble_eq_true rfl) rfl ?_
      refine g_keep [true, true, true, false] ?_
      exact bX9_lays_13 C hr b hb ih FU σ l1 0
def fX9_lays (σ : Sg) (b : Nat) : Option Sg :=
  (fX9_laysDepths σ b).bind fun σ1 =>
  (fX9_lays_7 b FU σ1 24)
theorem kX9_lays (X : Xc) (σ : Sg) (b : Nat) (hb : moOK b) : ∀ r, fX9_lays σ b = some r → Met X.l yX9_lays (wsM yX9_lays cX9_lays 4 none) rmX9_lays (va_Pc [.ref (X.ad b)] (PW X σ)) (Qv X r) 0 0 X.A := by
  refine mt_of (own := RX9) (lo := [some (.ref (X.ad b)), none, none, none]) (by decide) rfl (Nat.le_of_ble_eq_true rfl) rfl (fun K C hr => ?_)
  unfold fX9_lays
  refine g_aload_n (pc := 0) (i := 0) C dX9_lays_0 rfl rfl ?_
  refine g_callVv (pc := 1) (As := []) C (kX9_laysDepths X σ b hb) (blk hb 0 rfl) rfl q_27_1 q_27_2 q_27_3 q_1_5 q_27_4 ⟨rfl, hdX9_laysDepths⟩ ⟨Nat.le_of_ble_eq_true rfl, Nat.le_of_ble_eq_true rfl, rfl, rfl⟩ ⟨Nat.zero_le _, Nat.zero_le _⟩ (Nat.le_of_ble_eq_true rfl) rfl rfl dX9_lays_1 (fun σ1 _ => ?_)
  refine g_bipush (pc := 4) (v := 24) C dX9_lays_4 (by decide) ?_
  refine g_istore_n (pc := 6) (i := 1) C dX9_lays_6 rfl (Nat.le_of_ble_eq_true rfl) rfl ?_
  refine g_keep [true, true, false, false] ?_
  exact bX9_lays_7 C hr b hb FU σ1 24
theorem dX9_cornerOf_0 : decode cX9_cornerOf 0 = .ok (.aload_n 0, 1) := by decide +kernel
theorem dX9_cornerOf_1 : decode cX9_cornerOf 1 = .ok (.iload_n 1, 1) := by decide +kernel
theorem dX9_cornerOf_2 : decode cX9_cornerOf 2 = .ok (.invokevirtual 69, 3) := by decide +kernel
theorem dX9_cornerOf_5 : decode cX9_cornerOf 5 = .ok (.ifCond .eq 35, 3) := by decide +kernel
theorem dX9_cornerOf_8 : decode cX9_cornerOf 8 = .ok (.aload_n 0, 1) := by decide +kernel
theorem dX9_cornerOf_9 : decode cX9_cornerOf 9 = .ok (.getfield 22, 3) := by decide +kernel
theorem dX9_cornerOf_12 : decode cX9_cornerOf 12 = .ok (.aload_n 0, 1) := by decide +kernel
theorem dX9_cornerOf_13 : decode cX9_cornerOf 13 = .ok (.iload_n 1, 1) := by decide +kernel
theorem dX9_cornerOf_14 : decode cX9_cornerOf 14 = .ok (.iconst 3, 1) := by decide +kernel
theorem dX9_cornerOf_15 : decode cX9_cornerOf 15 = .ok (.invokevirtual 65, 3) := by decide +kernel
theorem dX9_cornerOf_18 : decode cX9_cornerOf 18 = .ok (.baload, 1) := by decide +kernel
theorem dX9_cornerOf_19 : decode cX9_cornerOf 19 = .ok (.ifCond .eq 21, 3) := by decide +kernel
theorem dX9_cornerOf_22 : decode cX9_cornerOf 22 = .ok (.aload_n 0, 1) := by decide +kernel
theorem dX9_cornerOf_23 : decode cX9_cornerOf 23 = .ok (.getfield 29, 3) := by decide +kernel
theorem dX9_cornerOf_26 : decode cX9_cornerOf 26 = .ok (.iconst 4, 1) := by decide +kernel
theorem dX9_cornerOf_27 : decode cX9_cornerOf 27 = .ok (.aload_n 0, 1) := by decide +kernel
theorem dX9_cornerOf_28 : decode cX9_cornerOf 28 = .ok (.iload_n 1, 1) := by decide +kernel
theorem dX9_cornerOf_29 : decode cX9_cornerOf 29 = .ok (.iconst 3, 1) := by decide +kernel
theorem dX9_cornerOf_30 : decode cX9_cornerOf 30 = .ok (.invokevirtual 65, 3) := by decide +kernel
theorem dX9_cornerOf_33 : decode cX9_cornerOf 33 = .ok (.imul, 1) := by decide +kernel
theorem dX9_cornerOf_34 : decode cX9_cornerOf 34 = .ok (.iload_n 2, 1) := by decide +kernel
theorem dX9_cornerOf_35 : decode cX9_cornerOf 35 = .ok (.iadd, 1) := by decide +kernel
theorem dX9_cornerOf_36 : decode cX9_cornerOf 36 = .ok (.iaload, 1) := by decide +kernel
theorem dX9_cornerOf_37 : decode cX9_cornerOf 37 = .ok (.goto 4, 3) := by decide +kernel
theorem dX9_cornerOf_40 : decode cX9_cornerOf 40 = .ok (.iconst (-1), 1) := by decide +kernel
theorem dX9_cornerOf_41 : decode cX9_cornerOf 41 = .ok (.ireturn, 1) := by decide +kernel
abbrev rmX9_cornerOf : Room := { frames := 2, cells := 0, slots := 0, locals := 43 }
theorem hdX9_cornerOf : yX9_cornerOf.cls ≠ "java/lang/invoke/MethodHandle" ∧ yX9_cornerOf.cls ≠ "java/lang/invoke/VarHandle" ∧ (parseMethodDescriptor yX9_cornerOf.desc).map (fun d => d.parameters.length) = some 2 := by decide +kernel
def fX9_cornerOf (σ : Sg) (b : Nat) (p1 : Int32) (p2 : Int32) : Option Int32 :=
  (fX9_isPlaced σ b p1).bind fun r1 =>
  if r1 = true then
    (fX9_of σ b p1 3).bind fun r2 =>
    if ck r2 24 then
      if (σ.1 (b + 5) r2.toNatClampNeg) = 0 then
        some (-1)
      else
        (fX9_of σ b p1 3).bind fun r3 =>
        if ck ((4 * r3) + p2) 96 then
          some (σ.1 (b + 7) ((4 * r3) + p2).toNatClampNeg)
        else none
    else none
  else
    some (-1)
theorem kX9_cornerOf (X : Xc) (σ : Sg) (b : Nat) (p1 : Int32) (p2 : Int32) (hb : moOK b) : ∀ r, fX9_cornerOf σ b p1 p2 = some r → Met X.l yX9_cornerOf (wsM yX9_cornerOf cX9_cornerOf 3 (some .int)) rmX9_cornerOf (va_Pc [.ref (X.ad b), .int p1, .int p2] (PW X σ)) (Qi X r σ) 0 0 X.A := by
  refine mt_of (own := RX9) (lo := [some (.ref (X.ad b)), some (.int (p1)), some (.int (p2))]) (by decide) rfl (Nat.le_of_ble_eq_true rfl) rfl (fun K C hr => ?_)
  unfold fX9_cornerOf
  refine g_aload_n (pc := 0) (i := 0) C dX9_cornerOf_0 rfl rfl ?_
  refine g_iload_n (pc := 1) (i := 1) C dX9_cornerOf_1 rfl rfl ?_
  refine g_callVi (pc := 2) (As := [.int (p1)]) C (kX9_isPlaced X σ b p1 hb) (blk hb 0 rfl) rfl q_20_0 q_20_1 q_20_2 q_1_5 q_20_3 ⟨rfl, hdX9_isPlaced⟩ ⟨Nat.le_of_ble_eq_true rfl, Nat.le_of_ble_eq_true rfl, rfl, rfl⟩ ⟨Nat.zero_le _, Nat.zero_le _⟩ (Nat.le_of_ble_eq_true rfl) rfl rfl dX9_cornerOf_2 (fun r1 _ => ?_)
  refine g_ifb_eq (pc := 5) (tgt := 40) C dX9_cornerOf_5 rfl ?_ ?_
  · refine g_aload_n (pc := 8) (i := 0) C dX9_cornerOf_8 rfl rfl ?_
    refine g_getr (pc := 9) (ci := 9) (N := 27) (T := TX9) (j := 7) (Cn := RX9) (b + 5) C rfl inlX9 (Nat.le_of_ble_eq_true rfl) q_6_7 (blk hb 0 rfl) rfl dX9_cornerOf_9 ?_
    refine g_aload_n (pc := 12) (i := 0) C dX9_cornerOf_12 rfl rfl ?_
    refine g_iload_n (pc := 13) (i := 1) C dX9_cornerOf_13 rfl rfl ?_
    refine g_iconst (pc := 14) (v := 3) C dX9_cornerOf_14 (by decide) ?_
    refine g_callVi (pc := 15) (As := [.int (p1), .int (3)]) C (kX9_of X σ b p1 3 hb) (blk hb 0 rfl) rfl q_10_2 q_10_3 q_10_4 q_1_5 q_10_5 ⟨rfl, hdX9_of⟩ ⟨Nat.le_of_ble_eq_true rfl, Nat.le_of_ble_eq_true rfl, rfl, rfl⟩ ⟨Nat.zero_le _, Nat.zero_le _⟩ (Nat.le_of_ble_eq_true rfl) rfl rfl dX9_cornerOf_15 (fun r2 _ => ?_)
    refine g_baload (pc := 18) C (blk hb 5 rfl) dX9_cornerOf_18 ?_
    refine g_if_eq (pc := 19) (tgt := 40) C dX9_cornerOf_19 rfl ?_ ?_
    · refine g_iconst (pc := 40) (v := (-1)) C dX9_cornerOf_40 (by decide) ?_
      exact g_iret (pc := 41) C hr dX9_cornerOf_41 rfl
    · refine g_aload_n (pc := 22) (i := 0) C dX9_cornerOf_22 rfl rfl ?_
      refine g_getr (pc := 23) (ci := 9) (N := 27) (T := TX9) (j := 9) (Cn := RX9) (b + 7) C rfl inlX9 (Nat.le_of_ble_eq_true rfl) q_6_9 (blk hb 0 rfl) rfl dX9_cornerOf_23 ?_
      refine g_iconst (pc := 26) (v := 4) C dX9_cornerOf_26 (by decide) ?_
      refine g_aload_n (pc := 27) (i := 0) C dX9_cornerOf_27 rfl rfl ?_
      refine g_iload_n (pc := 28) (i := 1) C dX9_cornerOf_28 rfl rfl ?_
      refine g_iconst (pc := 29) (v := 3) C dX9_cornerOf_29 (by decide) ?_
      refine g_callVi (pc := 30) (As := [.int (p1), .int (3)]) C (kX9_of X σ b p1 3 hb) (blk hb 0 rfl) rfl q_10_2 q_10_3 q_10_4 q_1_5 q_10_5 ⟨rfl, hdX9_of⟩ ⟨Nat.le_of_ble_eq_true rfl, Nat.le_of_ble_eq_true rfl, rfl, rfl⟩ ⟨Nat.zero_le _, Nat.zero_le _⟩ (Nat.le_of_ble_eq_true rfl) rfl rfl dX9_cornerOf_30 (fun r3 _ => ?_)
      refine g_imul (pc := 33) C dX9_cornerOf_33 ?_
      refine g_iload_n (pc := 34) (i := 2) C dX9_cornerOf_34 rfl rfl ?_
      refine g_iadd (pc := 35) C dX9_cornerOf_35 ?_
      refine g_iaload (pc := 36) C (blk hb 7 rfl) dX9_cornerOf_36 ?_
      refine g_goto (pc := 37) (tgt := 41) C dX9_cornerOf_37 rfl ?_
      exact g_iret (pc := 41) C hr dX9_cornerOf_41 rfl
  · refine g_iconst (pc := 40) (v := (-1)) C dX9_cornerOf_40 (by decide) ?_
    exact g_iret (pc := 41) C hr dX9_cornerOf_41 rfl
theorem dX9_rectangle_0 : decode cX9_rectangle 0 = .ok (.aload_n 0, 1) := by decide +kernel
theorem dX9_rectangle_1 : decode cX9_rectangle 1 = .ok (.aload_n 0, 1) := by decide +kernel
theorem dX9_rectangle_2 : decode cX9_rectangle 2 = .ok (.iload_n 1, 1) := by decide +kernel
theorem dX9_rectangle_3 : decode cX9_rectangle 3 = .ok (.invokevirtual 144, 3) := by decide +kernel
theorem dX9_rectangle_6 : decode cX9_rectangle 6 = .ok (.ifCond .ne 7, 3) := by decide +kernel
theorem dX9_rectangle_9 : decode cX9_rectangle 9 = .ok (.iconst 1, 1) := by decide +kernel
theorem dX9_rectangle_10 : decode cX9_rectangle 10 = .ok (.goto 17, 3) := by decide +kernel
theorem dX9_rectangle_13 : decode cX9_rectangle 13 = .ok (.iload_n 2, 1) := by decide +kernel
theorem dX9_rectangle_14 : decode cX9_rectangle 14 = .ok (.iconst 0, 1) := by decide +kernel
theorem dX9_rectangle_15 : decode cX9_rectangle 15 = .ok (.iconst 3, 1) := by decide +kernel
theorem dX9_rectangle_16 : decode cX9_rectangle 16 = .ok (.invokestatic 61, 3) := by decide +kernel
theorem dX9_rectangle_19 : decode cX9_rectangle 19 = .ok (.ifCond .ne 7, 3) := by decide +kernel
theorem dX9_rectangle_22 : decode cX9_rectangle 22 = .ok (.iconst 2, 1) := by decide +kernel
theorem dX9_rectangle_23 : decode cX9_rectangle 23 = .ok (.goto 4, 3) := by decide +kernel
theorem dX9_rectangle_26 : decode cX9_rectangle 26 = .ok (.iconst 0, 1) := by decide +kernel
theorem dX9_rectangle_27 : decode cX9_rectangle 27 = .ok (.invokevirtual 57, 3) := by decide +kernel
theorem dX9_rectangle_30 : decode cX9_rectangle 30 = .ok (.ifCond .eq 5, 3) := by decide +kernel
theorem dX9_rectangle_33 : decode cX9_rectangle 33 = .ok (.iconst 0, 1) := by decide +kernel
theorem dX9_rectangle_34 : decode cX9_rectangle 34 = .ok (.ireturn, 1) := by decide +kernel
theorem dX9_rectangle_35 : decode cX9_rectangle 35 = .ok (.aload_n 0, 1) := by decide +kernel
theorem dX9_rectangle_36 : decode cX9_rectangle 36 = .ok (.invokevirtual 193, 3) := by decide +kernel
theorem dX9_rectangle_39 : decode cX9_rectangle 39 = .ok (.aload_n 0, 1) := by decide +kernel
theorem dX9_rectangle_40 : decode cX9_rectangle 40 = .ok (.iload_n 1, 1) := by decide +kernel
theorem dX9_rectangle_41 : decode cX9_rectangle 41 = .ok (.iload_n 2, 1) := by decide +kernel
theorem dX9_rectangle_42 : decode cX9_rectangle 42 = .ok (.invokevirtual 196, 3) := by decide +kernel
theorem dX9_rectangle_45 : decode cX9_rectangle 45 = .ok (.ireturn, 1) := by decide +kernel
abbrev rmX9_rectangle : Room := { frames := 8, cells := 0, slots := 0, locals := 205 }
theorem hdX9_rectangle : yX9_rectangle.cls ≠ "java/lang/invoke/MethodHandle" ∧ yX9_rectangle.cls ≠ "java/lang/invoke/VarHandle" ∧ (parseMethodDescriptor yX9_rectangle.desc).map (fun d => d.parameters.length) = some 2 := by decide +kernel
def fX9_rectangle_27 (b : Nat) (σ : Sg) (l1 : Int32) (l2 : Int32) (s1 : Int32) : Option (Int32 × Sg) :=
  (fX9_refused σ b s1).bind fun r3 =>
  if r3.1 = true then
    some (0, r3.2)
  else
    (fX9_lays r3.2 b).bind fun σ4 =>
    (fX9_cornerOf σ4 b l1 l2).bind fun r5 =>
    some (r5, σ4)
theorem bX9_rectangle_27 {X : Xc} {K : Kc} (C : MC X K cX9_rectangle 3 RX9 rmX9_rectangle) (hr : K.meth.sig.returnType = (some .int)) (b : Nat) (hb : moOK b) (σ : Sg) (l1 : Int32) (l2 : Int32) (s1 : Int32) : GO X K 3 (fun r => MQi X K r.1 r.2) (fX9_rectangle_27 b σ l1 l2 s1) σ 0 0 27 [some (.ref (X.ad b)), some (.int (l1)), some (.int (l2))] [.int (s1), .ref (X.ad b)] := by
  unfold fX9_rectangle_27
  refine g_callVi (pc := 27) (As := [.int (s1)]) C (kX9_refused X σ b s1 hb) (blk hb 0 rfl) rfl q_10_9 q_10_10 q_10_11 q_1_5 q_10_12 ⟨rfl, hdX9_refused⟩ ⟨Nat.le_of_ble_eq_true rfl, Nat.le_of_ble_eq_true rfl, rfl, rfl⟩ ⟨Nat.zero_le _, Nat.zero_le _⟩ (Nat.le_of_ble_eq_true rfl) rfl rfl dX9_rectangle_27 (fun r3 _ => ?_)
  refine g_ifb_eq (pc := 30) (tgt := 35) C dX9_rectangle_30 rfl ?_ ?_
  · refine g_iconst (pc := 33) (v := 0) C dX9_rectangle_33 (by decide) ?_
    exact g_iret (pc := 34) C hr dX9_rectangle_34 rfl
  · refine g_aload_n (pc := 35) (i := 0) C dX9_rectangle_35 rfl rfl ?_
    refine g_callVv (pc := 36) (As := []) C (kX9_lays X r3.2 b hb) (blk hb 0 rfl) rfl q_26_21 q_26_22 q_26_23 q_1_5 q_27_0 ⟨rfl, hdX9_lays⟩ ⟨Nat.le_of_ble_eq_true rfl, Nat.le_of_ble_eq_true rfl, rfl, rfl⟩ ⟨Nat.zero_le _, Nat.zero_le _⟩ (Nat.le_of_ble_eq_true rfl) rfl rfl dX9_rectangle_36 (fun σ4 _ => ?_)
    refine g_aload_n (pc := 39) (i := 0) C dX9_rectangle_39 rfl rfl ?_
    refine g_iload_n (pc := 40) (i := 1) C dX9_rectangle_40 rfl rfl ?_
    refine g_iload_n (pc := 41) (i := 2) C dX9_rectangle_41 rfl rfl ?_
    refine g_callVi (pc := 42) (As := [.int (l1), .int (l2)]) C (kX9_cornerOf X σ4 b l1 l2 hb) (blk hb 0 rfl) rfl q_28_11 q_28_12 q_28_13 q_1_5 q_28_14 ⟨rfl, hdX9_cornerOf⟩ ⟨Nat.le_of_ble_eq_true rfl, Nat.le_of_ble_eq_true rfl, rfl, rfl⟩ ⟨Nat.zero_le _, Nat.zero_le _⟩ (Nat.le_of_ble_eq_true rfl) rfl rfl dX9_rectangle_42 (fun r5 _ => ?_)
    exact g_iret (pc := 45) C hr dX9_rectangle_45 rfl
def fX9_rectangle (σ : Sg) (b : Nat) (p1 : Int32) (p2 : Int32) : Option (Int32 × Sg) :=
  (fX9_isPane σ b p1).bind fun r1 =>
  if r1 = true then
    (fX9_within σ p2 0 3).bind fun r2 =>
    if r2 = true then
      (fX9_rectangle_27 b σ p1 p2 0)
    else
      (fX9_rectangle_27 b σ p1 p2 2)
  else
    (fX9_rectangle_27 b σ p1 p2 1)
theorem kX9_rectangle (X : Xc) (σ : Sg) (b : Nat) (p1 : Int32) (p2 : Int32) (hb : moOK b) : ∀ r, fX9_rectangle σ b p1 p2 = some r → Met X.l yX9_rectangle (wsM yX9_rectangle cX9_rectangle 3 (some .int)) rmX9_rectangle (va_Pc [.ref (X.ad b), .int p1, .int p2] (PW X σ)) (Qi X r.1 r.2) 0 0 X.A := by
  refine mt_of (own := RX9) (lo := [some (.ref (X.ad b)), some (.int (p1)), some (.int (p2))]) (by decide) rfl (Nat.le_of_ble_eq_true rfl) rfl (fun K C hr => ?_)
  unfold fX9_rectangle
  refine g_aload_n (pc := 0) (i := 0) C dX9_rectangle_0 rfl rfl ?_
  refine g_aload_n (pc := 1) (i := 0) C dX9_rectangle_1 rfl rfl ?_
  refine g_iload_n (pc := 2) (i := 1) C dX9_rectangle_2 rfl rfl ?_
  refine g_callVi (pc := 3) (As := [.int (p1)]) C (kX9_isPane X σ b p1 hb) (blk hb 0 rfl) rfl q_19_16 q_19_17 q_19_18 q_1_5 q_19_19 ⟨rfl, hdX9_isPane⟩ ⟨Nat.le_of_ble_eq_true rfl, Nat.le_of_ble_eq_true rfl, rfl, rfl⟩ ⟨Nat.zero_le _, Nat.zero_le _⟩ (Nat.le_of_ble_eq_true rfl) rfl rfl dX9_rectangle_3 (fun r1 _ => ?_)
  refine g_ifb_ne (pc := 6) (tgt := 13) C dX9_rectangle_6 rfl ?_ ?_
  · refine g_iload_n (pc := 13) (i := 2) C dX9_rectangle_13 rfl rfl ?_
    refine g_iconst (pc := 14) (v := 0) C dX9_rectangle_14 (by decide) ?_
    refine g_iconst (pc := 15) (v := 3) C dX9_rectangle_15 (by decide) ?_
    refine g_callSi (pc := 16) (As := [.int (p2), .int (0), .int (3)]) C (kX9_within X σ p2 0 3) q_10_6 q_10_7 q_1_5 q_10_8 hdX9_within ⟨Nat.le_of_ble_eq_true rfl, Nat.le_of_ble_eq_true rfl, rfl, rfl⟩ ⟨Nat.zero_le _, Nat.zero_le _⟩ (Nat.le_of_ble_eq_true rfl) rfl rfl dX9_rectangle_16 (fun r2 _ => ?_)
    refine g_ifb_ne (pc := 19) (tgt := 26) C dX9_rectangle_19 rfl ?_ ?_
    · refine g_iconst (pc := 26) (v := 0) C dX9_rectangle_26 (by decide) ?_
      refine g_keep [true, true, true] ?_
      exact bX9_rectangle_27 C hr b hb σ p1 p2 0
    · refine g_iconst (pc := 22) (v := 2) C dX9_rectangle_22 (by decide) ?_
      refine g_goto (pc := 23) (tgt := 27) C dX9_rectangle_23 rfl ?_
      refine g_keep [true, true, true] ?_
      exact bX9_rectangle_27 C hr b hb σ p1 p2 2
  · refine g_iconst (pc := 9) (v := 1) C dX9_rectangle_9 (by decide) ?_
    refine g_goto (pc := 10) (tgt := 27) C dX9_rectangle_10 rfl ?_
    refine g_keep [true, true, true] ?_
    exact bX9_rectangle_27 C hr b hb σ p1 p2 1
theorem dX9_tab_0 : decode cX9_tab 0 = .ok (.aload_n 0, 1) := by decide +kernel
theorem dX9_tab_1 : decode cX9_tab 1 = .ok (.aload_n 0, 1) := by decide +kernel
theorem dX9_tab_2 : decode cX9_tab 2 = .ok (.iload_n 1, 1) := by decide +kernel
theorem dX9_tab_3 : decode cX9_tab 3 = .ok (.invokevirtual 144, 3) := by decide +kernel
theorem dX9_tab_6 : decode cX9_tab 6 = .ok (.ifCond .eq 7, 3) := by decide +kernel
theorem dX9_tab_9 : decode cX9_tab 9 = .ok (.iconst 0, 1) := by decide +kernel
theorem dX9_tab_10 : decode cX9_tab 10 = .ok (.goto 4, 3) := by decide +kernel
theorem dX9_tab_13 : decode cX9_tab 13 = .ok (.iconst 1, 1) := by decide +kernel
theorem dX9_tab_14 : decode cX9_tab 14 = .ok (.invokevirtual 57, 3) := by decide +kernel
theorem dX9_tab_17 : decode cX9_tab 17 = .ok (.ifCond .eq 5, 3) := by decide +kernel
theorem dX9_tab_20 : decode cX9_tab 20 = .ok (.iconst 0, 1) := by decide +kernel
theorem dX9_tab_21 : decode cX9_tab 21 = .ok (.ireturn, 1) := by decide +kernel
theorem dX9_tab_22 : decode cX9_tab 22 = .ok (.aload_n 0, 1) := by decide +kernel
theorem dX9_tab_23 : decode cX9_tab 23 = .ok (.iload_n 1, 1) := by decide +kernel
theorem dX9_tab_24 : decode cX9_tab 24 = .ok (.invokevirtual 69, 3) := by decide +kernel
theorem dX9_tab_27 : decode cX9_tab 27 = .ok (.ifCond .eq 17, 3) := by decide +kernel
theorem dX9_tab_30 : decode cX9_tab 30 = .ok (.aload_n 0, 1) := by decide +kernel
theorem dX9_tab_31 : decode cX9_tab 31 = .ok (.aload_n 0, 1) := by decide +kernel
theorem dX9_tab_32 : decode cX9_tab 32 = .ok (.iload_n 1, 1) := by decide +kernel
theorem dX9_tab_33 : decode cX9_tab 33 = .ok (.iconst 3, 1) := by decide +kernel
theorem dX9_tab_34 : decode cX9_tab 34 = .ok (.invokevirtual 65, 3) := by decide +kernel
theorem dX9_tab_37 : decode cX9_tab 37 = .ok (.iload_n 2, 1) := by decide +kernel
theorem dX9_tab_38 : decode cX9_tab 38 = .ok (.invokevirtual 110, 3) := by decide +kernel
theorem dX9_tab_41 : decode cX9_tab 41 = .ok (.goto 4, 3) := by decide +kernel
theorem dX9_tab_44 : decode cX9_tab 44 = .ok (.iconst (-1), 1) := by decide +kernel
theorem dX9_tab_45 : decode cX9_tab 45 = .ok (.ireturn, 1) := by decide +kernel
abbrev rmX9_tab : Room := { frames := 2, cells := 0, slots := 0, locals := 45 }
theorem hdX9_tab : yX9_tab.cls ≠ "java/lang/invoke/MethodHandle" ∧ yX9_tab.cls ≠ "java/lang/invoke/VarHandle" ∧ (parseMethodDescriptor yX9_tab.desc).map (fun d => d.parameters.length) = some 2 := by decide +kernel
def fX9_tab_14 (b : Nat) (σ : Sg) (l1 : Int32) (l2 : Int32) (s1 : Int32) : Option (Int32 × Sg) :=
  (fX9_refused σ b s1).bind fun r2 =>
  if r2.1 = true then
    some (0, r2.2)
  else
    (fX9_isPlaced r2.2 b l1).bind fun r3 =>
    if r3 = true then
      (fX9_of r2.2 b l1 3).bind fun r4 =>
      (fX9_tabAt r2.2 b r4 l2).bind fun r5 =>
      some (r5, r2.2)
    else
      some ((-1), r2.2)
theorem bX9_tab_14 {X : Xc} {K : Kc} (C : MC X K cX9_tab 3 RX9 rmX9_tab) (hr : K.meth.sig.returnType = (some .int)) (b : Nat) (hb : moOK b) (σ : Sg) (l1 : Int32) (l2 : Int32) (s1 : Int32) : GO X K 3 (fun r => MQi X K r.1 r.2) (fX9_tab_14 b σ l1 l2 s1) σ 0 0 14 [some (.ref (X.ad b)), some (.int (l1)), some (.int (l2))] [.int (s1), .ref (X.ad b)] := by
  unfold fX9_tab_14
  refine g_callVi (pc := 14) (As := [.int (s1)]) C (kX9_refused X σ b s1 hb) (blk hb 0 rfl) rfl q_10_9 q_10_10 q_10_11 q_1_5 q_10_12 ⟨rfl, hdX9_refused⟩ ⟨Nat.le_of_ble_eq_true rfl, Nat.le_of_ble_eq_true rfl, rfl, rfl⟩ ⟨Nat.zero_le _, Nat.zero_le _⟩ (Nat.le_of_ble_eq_true rfl) rfl rfl dX9_tab_14 (fun r2 _ => ?_)
  refine g_ifb_eq (pc := 17) (tgt := 22) C dX9_tab_17 rfl ?_ ?_
  · refine g_iconst (pc := 20) (v := 0) C dX9_tab_20 (by decide) ?_
    exact g_iret (pc := 21) C hr dX9_tab_21 rfl
  · refine g_aload_n (pc := 22) (i := 0) C dX9_tab_22 rfl rfl ?_
    refine g_iload_n (pc := 23) (i := 1) C dX9_tab_23 rfl rfl ?_
    refine g_callVi (pc := 24) (As := [.int (l1)]) C (kX9_isPlaced X r2.2 b l1 hb) (blk hb 0 rfl) rfl q_20_0 q_20_1 q_20_2 q_1_5 q_20_3 ⟨rfl, hdX9_isPlaced⟩ ⟨Nat.le_of_ble_eq_true rfl, Nat.le_of_ble_eq_true rfl, rfl, rfl⟩ ⟨Nat.zero_le _, Nat.zero_le _⟩ (Nat.le_of_ble_eq_true rfl) rfl rfl dX9_tab_24 (fun r3 _ => ?_)
    refine g_ifb_eq (pc := 27) (tgt := 44) C dX9_tab_27 rfl ?_ ?_
    · refine g_aload_n (pc := 30) (i := 0) C dX9_tab_30 rfl rfl ?_
      refine g_aload_n (pc := 31) (i := 0) C dX9_tab_31 rfl rfl ?_
      refine g_iload_n (pc := 32) (i := 1) C dX9_tab_32 rfl rfl ?_
      refine g_iconst (pc := 33) (v := 3) C dX9_tab_33 (by decide) ?_
      refine g_callVi (pc := 34) (As := [.int (l1), .int (3)]) C (kX9_of X r2.2 b l1 3 hb) (blk hb 0 rfl) rfl q_10_2 q_10_3 q_10_4 q_1_5 q_10_5 ⟨rfl, hdX9_of⟩ ⟨Nat.le_of_ble_eq_true rfl, Nat.le_of_ble_eq_true rfl, rfl, rfl⟩ ⟨Nat.zero_le _, Nat.zero_le _⟩ (Nat.le_of_ble_eq_true rfl) rfl rfl dX9_tab_34 (fun r4 _ => ?_)
      refine g_iload_n (pc := 37) (i := 2) C dX9_tab_37 rfl rfl ?_
      refine g_callVi (pc := 38) (As := [.int (r4), .int (l2)]) C (kX9_tabAt X r2.2 b r4 l2 hb) (blk hb 0 rfl) rfl q_20_20 q_20_21 q_20_22 q_1_5 q_20_23 ⟨rfl, hdX9_tabAt⟩ ⟨Nat.le_of_ble_eq_true rfl, Nat.le_of_ble_eq_true rfl, rfl, rfl⟩ ⟨Nat.zero_le _, Nat.zero_le _⟩ (Nat.le_of_ble_eq_true rfl) rfl rfl dX9_tab_38 (fun r5 _ => ?_)
      refine g_goto (pc := 41) (tgt := 45) C dX9_tab_41 rfl ?_
      exact g_iret (pc := 45) C hr dX9_tab_45 rfl
    · refine g_iconst (pc := 44) (v := (-1)) C dX9_tab_44 (by decide) ?_
      exact g_iret (pc := 45) C hr dX9_tab_45 rfl
def fX9_tab (σ : Sg) (b : Nat) (p1 : Int32) (p2 : Int32) : Option (Int32 × Sg) :=
  (fX9_isPane σ b p1).bind fun r1 =>
  if r1 = true then
    (fX9_tab_14 b σ p1 p2 0)
  else
    (fX9_tab_14 b σ p1 p2 1)
theorem kX9_tab (X : Xc) (σ : Sg) (b : Nat) (p1 : Int32) (p2 : Int32) (hb : moOK b) : ∀ r, fX9_tab σ b p1 p2 = some r → Met X.l yX9_tab (wsM yX9_tab cX9_tab 3 (some .int)) rmX9_tab (va_Pc [.ref (X.ad b), .int p1, .int p2] (PW X σ)) (Qi X r.1 r.2) 0 0 X.A := by
  refine mt_of (own := RX9) (lo := [some (.ref (X.ad b)), some (.int (p1)), some (.int (p2))]) (by decide) rfl (Nat.le_of_ble_eq_true rfl) rfl (fun K C hr => ?_)
  unfold fX9_tab
  refine g_aload_n (pc := 0) (i := 0) C dX9_tab_0 rfl rfl ?_
  refine g_aload_n (pc := 1) (i := 0) C dX9_tab_1 rfl rfl ?_
  refine g_iload_n (pc := 2) (i := 1) C dX9_tab_2 rfl rfl ?_
  refine g_callVi (pc := 3) (As := [.int (p1)]) C (kX9_isPane X σ b p1 hb) (blk hb 0 rfl) rfl q_19_16 q_19_17 q_19_18 q_1_5 q_19_19 ⟨rfl, hdX9_isPane⟩ ⟨Nat.le_of_ble_eq_true rfl, Nat.le_of_ble_eq_true rfl, rfl, rfl⟩ ⟨Nat.zero_le _, Nat.zero_le _⟩ (Nat.le_of_ble_eq_true rfl) rfl rfl dX9_tab_3 (fun r1 _ => ?_)
  refine g_ifb_eq (pc := 6) (tgt := 13) C dX9_tab_6 rfl ?_ ?_
  · refine g_iconst (pc := 9) (v := 0) C dX9_tab_9 (by decide) ?_
    refine g_goto (pc := 10) (tgt := 14) C dX9_tab_10 rfl ?_
    refine g_keep [true, true, true] ?_
    exact bX9_tab_14 C hr b hb σ p1 p2 0
  · refine g_iconst (pc := 13) (v := 1) C dX9_tab_13 (by decide) ?_
    refine g_keep [true, true, true] ?_
    exact bX9_tab_14 C hr b hb σ p1 p2 1
theorem dX9_resize_0 : decode cX9_resize 0 = .ok (.aload_n 0, 1) := by decide +kernel
theorem dX9_resize_1 : decode cX9_resize 1 = .ok (.aload_n 0, 1) := by decide +kernel
theorem dX9_resize_2 : decode cX9_resize 2 = .ok (.iload_n 1, 1) := by decide +kernel
theorem dX9_resize_3 : decode cX9_resize 3 = .ok (.invokevirtual 187, 3) := by decide +kernel
theorem dX9_resize_6 : decode cX9_resize 6 = .ok (.ifCond .ne 7, 3) := by decide +kernel
theorem dX9_resize_9 : decode cX9_resize 9 = .ok (.iconst 1, 1) := by decide +kernel
theorem dX9_resize_10 : decode cX9_resize 10 = .ok (.goto 32, 3) := by decide +kernel
theorem dX9_resize_13 : decode cX9_resize 13 = .ok (.iload_n 2, 1) := by decide +kernel
theorem dX9_resize_14 : decode cX9_resize 14 = .ok (.bipush 10, 2) := by decide +kernel
theorem dX9_resize_16 : decode cX9_resize 16 = .ok (.sipush 400, 3) := by decide +kernel
theorem dX9_resize_19 : decode cX9_resize 19 = .ok (.invokestatic 61, 3) := by decide +kernel
theorem dX9_resize_22 : decode cX9_resize 22 = .ok (.ifCond .eq 15, 3) := by decide +kernel
theorem dX9_resize_25 : decode cX9_resize 25 = .ok (.iload_n 3, 1) := by decide +kernel
theorem dX9_resize_26 : decode cX9_resize 26 = .ok (.bipush 10, 2) := by decide +kernel
theorem dX9_resize_28 : decode cX9_resize 28 = .ok (.sipush 400, 3) := by decide +kernel
theorem dX9_resize_31 : decode cX9_resize 31 = .ok (.invokestatic 61, 3) := by decide +kernel
theorem dX9_resize_34 : decode cX9_resize 34 = .ok (.ifCond .ne 7, 3) := by decide +kernel
theorem dX9_resize_37 : decode cX9_resize 37 = .ok (.iconst 2, 1) := by decide +kernel
theorem dX9_resize_38 : decode cX9_resize 38 = .ok (.goto 4, 3) := by decide +kernel
theorem dX9_resize_41 : decode cX9_resize 41 = .ok (.iconst 0, 1) := by decide +kernel
theorem dX9_resize_42 : decode cX9_resize 42 = .ok (.invokevirtual 57, 3) := by decide +kernel
theorem dX9_resize_45 : decode cX9_resize 45 = .ok (.ifCond .eq 5, 3) := by decide +kernel
theorem dX9_resize_48 : decode cX9_resize 48 = .ok (.iconst 0, 1) := by decide +kernel
theorem dX9_resize_49 : decode cX9_resize 49 = .ok (.ireturn, 1) := by decide +kernel
theorem dX9_resize_50 : decode cX9_resize 50 = .ok (.aload_n 0, 1) := by decide +kernel
theorem dX9_resize_51 : decode cX9_resize 51 = .ok (.invokevirtual 141, 3) := by decide +kernel
theorem dX9_resize_54 : decode cX9_resize 54 = .ok (.aload_n 0, 1) := by decide +kernel
theorem dX9_resize_55 : decode cX9_resize 55 = .ok (.iload_n 1, 1) := by decide +kernel
theorem dX9_resize_56 : decode cX9_resize 56 = .ok (.iconst 3, 1) := by decide +kernel
theorem dX9_resize_57 : decode cX9_resize 57 = .ok (.iload_n 2, 1) := by decide +kernel
theorem dX9_resize_58 : decode cX9_resize 58 = .ok (.invokevirtual 94, 3) := by decide +kernel
theorem dX9_resize_61 : decode cX9_resize 61 = .ok (.aload_n 0, 1) := by decide +kernel
theorem dX9_resize_62 : decode cX9_resize 62 = .ok (.iload_n 1, 1) := by decide +kernel
theorem dX9_resize_63 : decode cX9_resize 63 = .ok (.iconst 4, 1) := by decide +kernel
theorem dX9_resize_64 : decode cX9_resize 64 = .ok (.iload_n 3, 1) := by decide +kernel
theorem dX9_resize_65 : decode cX9_resize 65 = .ok (.invokevirtual 94, 3) := by decide +kernel
theorem dX9_resize_68 : decode cX9_resize 68 = .ok (.aload_n 0, 1) := by decide +kernel
theorem dX9_resize_69 : decode cX9_resize 69 = .ok (.iload_n 1, 1) := by decide +kernel
theorem dX9_resize_70 : decode cX9_resize 70 = .ok (.invokevirtual 199, 3) := by decide +kernel
theorem dX9_resize_73 : decode cX9_resize 73 = .ok (.ireturn, 1) := by decide +kernel
abbrev rmX9_resize : Room := { frames := 4, cells := 0, slots := 0, locals := 90 }
theorem hdX9_resize : yX9_resize.cls ≠ "java/lang/invoke/MethodHandle" ∧ yX9_resize.cls ≠ "java/lang/invoke/VarHandle" ∧ (parseMethodDescriptor yX9_resize.desc).map (fun d => d.parameters.length) = some 3 := by decide +kernel
def fX9_resize_42 (b : Nat) (σ : Sg) (l1 : Int32) (l2 : Int32) (l3 : Int32) (s1 : Int32) : Option (Int32 × Sg) :=
  (fX9_refused σ b s1).bind fun r4 =>
  if r4.1 = true then
    some (0, r4.2)
  else
    (fX9_saves r4.2 b).bind fun σ5 =>
    (fX9_puts σ5 b l1 3 l2).bind fun σ6 =>
    (fX9_puts σ6 b l1 4 l3).bind fun σ7 =>
    (fX9_placedIn σ7 b l1).bind fun r8 =>
    some (r8, σ7)
theorem bX9_resize_42 {X : Xc} {K : Kc} (C : MC X K cX9_resize 4 RX9 rmX9_resize) (hr : K.meth.sig.returnType = (some .int)) (b : Nat) (hb : moOK b) (σ : Sg) (l1 : Int32) (l2 : Int32) (l3 : Int32) (s1 : Int32) : GO X K 4 (fun r => MQi X K r.1 r.2) (fX9_resize_42 b σ l1 l2 l3 s1) σ 0 0 42 [some (.ref (X.ad b)), some (.int (l1)), some (.int (l2)), some (.int (l3))] [.int (s1), .ref (X.ad b)] := by
  unfold fX9_resize_42
  refine g_callVi (pc := 42) (As := [.int (s1)]) C (kX9_refused X σ b s1 hb) (blk hb 0 rfl) rfl q_10_9 q_10_10 q_10_11 q_1_5 q_10_12 ⟨rfl, hdX9_refused⟩ ⟨Nat.le_of_ble_eq_true rfl, Nat.le_of_ble_eq_true rfl, rfl, rfl⟩ ⟨Nat.zero_le _, Nat.zero_le _⟩ (Nat.le_of_ble_eq_true rfl) rfl rfl dX9_resize_42 (fun r4 _ => ?_)
  refine g_ifb_eq (pc := 45) (tgt := 50) C dX9_resize_45 rfl ?_ ?_
  · refine g_iconst (pc := 48) (v := 0) C dX9_resize_48 (by decide) ?_
    exact g_iret (pc := 49) C hr dX9_resize_49 rfl
  · refine g_aload_n (pc := 50) (i := 0) C dX9_resize_50 rfl rfl ?_
    refine g_callVv (pc := 51) (As := []) C (kX9_saves X r4.2 b hb) (blk hb 0 rfl) rfl q_10_14 q_10_15 q_10_16 q_1_5 q_10_17 ⟨rfl, hdX9_saves⟩ ⟨Nat.le_of_ble_eq_true rfl, Nat.le_of_ble_eq_true rfl, rfl, rfl⟩ ⟨Nat.zero_le _, Nat.zero_le _⟩ (Nat.le_of_ble_eq_true rfl) rfl rfl dX9_resize_51 (fun σ5 _ => ?_)
    refine g_aload_n (pc := 54) (i := 0) C dX9_resize_54 rfl rfl ?_
    refine g_iload_n (pc := 55) (i := 1) C dX9_resize_55 rfl rfl ?_
    refine g_iconst (pc := 56) (v := 3) C dX9_resize_56 (by decide) ?_
    refine g_iload_n (pc := 57) (i := 2) C dX9_resize_57 rfl rfl ?_
    refine g_callVv (pc := 58) (As := [.int (l1), .int (3), .int (l2)]) C (kX9_puts X σ5 b l1 3 l2 hb) (blk hb 0 rfl) rfl q_22_16 q_22_17 q_22_18 q_1_5 q_22_19 ⟨rfl, hdX9_puts⟩ ⟨Nat.le_of_ble_eq_true rfl, Nat.le_of_ble_eq_true rfl, rfl, rfl⟩ ⟨Nat.zero_le _, Nat.zero_le _⟩ (Nat.le_of_ble_eq_true rfl) rfl rfl dX9_resize_58 (fun σ6 _ => ?_)
    refine g_aload_n (pc := 61) (i := 0) C dX9_resize_61 rfl rfl ?_
    refine g_iload_n (pc := 62) (i := 1) C dX9_resize_62 rfl rfl ?_
    refine g_iconst (pc := 63) (v := 4) C dX9_resize_63 (by decide) ?_
    refine g_iload_n (pc := 64) (i := 3) C dX9_resize_64 rfl rfl ?_
    refine g_callVv (pc := 65) (As := [.int (l1), .int (4), .int (l3)]) C (kX9_puts X σ6 b l1 4 l3 hb) (blk hb 0 rfl) rfl q_22_16 q_22_17 q_22_18 q_1_5 q_22_19 ⟨rfl, hdX9_puts⟩ ⟨Nat.le_of_ble_eq_true rfl, Nat.le_of_ble_eq_true rfl, rfl, rfl⟩ ⟨Nat.zero_le _, Nat.zero_le _⟩ (Nat.le_of_ble_eq_true rfl) rfl rfl dX9_resize_65 (fun σ7 _ => ?_)
    refine g_aload_n (pc := 68) (i := 0) C dX9_resize_68 rfl rfl ?_
    refine g_iload_n (pc := 69) (i := 1) C dX9_resize_69 rfl rfl ?_
    refine g_callVi (pc := 70) (As := [.int (l1)]) C (kX9_placedIn X σ7 b l1 hb) (blk hb 0 rfl) rfl q_30_7 q_30_8 q_30_9 q_1_5 q_30_10 ⟨rfl, hdX9_placedIn⟩ ⟨Nat.le_of_ble_eq_true rfl, Nat.le_of_ble_eq_true rfl, rfl, rfl⟩ ⟨Nat.zero_le _, Nat.zero_le _⟩ (Nat.le_of_ble_eq_true rfl) rfl rfl dX9_resize_70 (fun r8 _ => ?_)
    exact g_iret (pc := 73) C hr dX9_resize_73 rfl
def fX9_resize_37 (b : Nat) (σ : Sg) (l1 : Int32) (l2 : Int32) (l3 : Int32) : Option (Int32 × Sg) :=
  (fX9_resize_42 b σ l1 l2 l3 2)
theorem bX9_resize_37 {X : Xc} {K : Kc} (C : MC X K cX9_resize 4 RX9 rmX9_resize) (hr : K.meth.sig.returnType = (some .int)) (b : Nat) (hb : moOK b) (σ : Sg) (l1 : Int32) (l2 : Int32) (l3 : Int32) : GO X K 4 (fun r => MQi X K r.1 r.2) (fX9_resize_37 b σ l1 l2 l3) σ 0 0 37 [some (.ref (X.ad b)), some (.int (l1)), some (.int (l2)), some (.int (l3))] [.ref (X.ad b)] := by
  unfold fX9_resize_37
  refine g_iconst (pc := 37) (v := 2) C dX9_resize_37 (by decide) ?_
  refine g_goto (pc := 38) (tgt := 42) C dX9_resize_38 rfl ?_
  refine g_keep [true, true, true, true] ?_
  exact bX9_resize_42 C hr b hb σ l1 l2 l3 2
def fX9_resize (σ : Sg) (b : Nat) (p1 : Int32) (p2 : Int32) (p3 : Int32) : Option (Int32 × Sg) :=
  (fX9_isWindow σ b p1).bind fun r1 =>
  if r1 = true then
    (fX9_within σ p2 10 400).bind fun r2 =>
    if r2 = true then
      (fX9_within σ p3 10 400).bind fun r3 =>
      if r3 = true then
        (fX9_resize_42 b σ p1 p2 p3 0)
      else
        (fX9_resize_37 b σ p1 p2 p3)
    else
      (fX9_resize_37 b σ p1 p2 p3)
  else
    (fX9_resize_42 b σ p1 p2 p3 1)
theorem kX9_resize (X : Xc) (σ : Sg) (b : Nat) (p1 : Int32) (p2 : Int32) (p3 : Int32) (hb : moOK b) : ∀ r, fX9_resize σ b p1 p2 p3 = some r → Met X.l yX9_resize (wsM yX9_resize cX9_resize 4 (some .int)) rmX9_resize (va_Pc [.ref (X.ad b), .int p1, .int p2, .int p3] (PW X σ)) (Qi X r.1 r.2) 0 0 X.A := by
  refine mt_of (own := RX9) (lo := [some (.ref (X.ad b)), some (.int (p1)), some (.int (p2)), some (.int (p3))]) (by decide) rfl (Nat.le_of_ble_eq_true rfl) rfl (fun K C hr => ?_)
  unfold fX9_resize
  refine g_aload_n (pc := 0) (i := 0) C dX9_resize_0 rfl rfl ?_
  refine g_aload_n (pc := 1) (i := 0) C dX9_resize_1 rfl rfl ?_
  refine g_iload_n (pc := 2) (i := 1) C dX9_resize_2 rfl rfl ?_
  refine g_callVi (pc := 3) (As := [.int (p1)]) C (kX9_isWindow X σ b p1 hb) (blk hb 0 rfl) rfl q_27_9 q_27_10 q_27_11 q_1_5 q_27_12 ⟨rfl, hdX9_isWindow⟩ ⟨Nat.le_of_ble_eq_true rfl, Nat.le_of_ble_eq_true rfl, rfl, rfl⟩ ⟨Nat.zero_le _, Nat.zero_le _⟩ (Nat.le_of_ble_eq_true rfl) rfl rfl dX9_resize_3 (fun r1 _ => ?_)
  refine g_ifb_ne (pc := 6) (tgt := 13) C dX9_resize_6 rfl ?_ ?_
  · refine g_iload_n (pc := 13) (i := 2) C dX9_resize_13 rfl rfl ?_
    refine g_bipush (pc := 14) (v := 10) C dX9_resize_14 (by decide) ?_
    refine g_sipush (pc := 16) (v := 400) C dX9_resize_16 (by decide) ?_
    refine g_callSi (pc := 19) (As := [.int (p2), .int (10), .int (400)]) C (kX9_within X σ p2 10 400) q_10_6 q_10_7 q_1_5 q_10_8 hdX9_within ⟨Nat.le_of_ble_eq_true rfl, Nat.le_of_ble_eq_true rfl, rfl, rfl⟩ ⟨Nat.zero_le _, Nat.zero_le _⟩ (Nat.le_of_ble_eq_true rfl) rfl rfl dX9_resize_19 (fun r2 _ => ?_)
    refine g_ifb_eq (pc := 22) (tgt := 37) C dX9_resize_22 rfl ?_ ?_
    · refine g_iload_n (pc := 25) (i := 3) C dX9_resize_25 rfl rfl ?_
      refine g_bipush (pc := 26) (v := 10) C dX9_resize_26 (by decide) ?_
      refine g_sipush (pc := 28) (v := 400) C dX9_resize_28 (by decide) ?_
      refine g_callSi (pc := 31) (As := [.int (p3), .int (10), .int (400)]) C (kX9_within X σ p3 10 400) q_10_6 q_10_7 q_1_5 q_10_8 hdX9_within ⟨Nat.le_of_ble_eq_true rfl, Nat.le_of_ble_eq_true rfl, rfl, rfl⟩ ⟨Nat.zero_le _, Nat.zero_le _⟩ (Nat.le_of_ble_eq_true rfl) rfl rfl dX9_resize_31 (fun r3 _ => ?_)
      refine g_ifb_ne (pc := 34) (tgt := 41) C dX9_resize_34 rfl ?_ ?_
      · refine g_iconst (pc := 41) (v := 0) C dX9_resize_41 (by decide) ?_
        refine g_keep [true, true, true, true] ?_
        exact bX9_resize_42 C hr b hb σ p1 p2 p3 0
      · refine g_keep [true, true, true, true] ?_
        exact bX9_resize_37 C hr b hb σ p1 p2 p3
    · refine g_keep [true, true, true, true] ?_
      exact bX9_resize_37 C hr b hb σ p1 p2 p3
  · refine g_iconst (pc := 9) (v := 1) C dX9_resize_9 (by decide) ?_
    refine g_goto (pc := 10) (tgt := 42) C dX9_resize_10 rfl ?_
    refine g_keep [true, true, true, true] ?_
    exact bX9_resize_42 C hr b hb σ p1 p2 p3 1
theorem dX9_move_0 : decode cX9_move 0 = .ok (.aload_n 0, 1) := by decide +kernel
theorem dX9_move_1 : decode cX9_move 1 = .ok (.aload_n 0, 1) := by decide +kernel
theorem dX9_move_2 : decode cX9_move 2 = .ok (.iload_n 1, 1) := by decide +kernel
theorem dX9_move_3 : decode cX9_move 3 = .ok (.invokevirtual 187, 3) := by decide +kernel
theorem dX9_move_6 : decode cX9_move 6 = .ok (.ifCond .ne 7, 3) := by decide +kernel
theorem dX9_move_9 : decode cX9_move 9 = .ok (.iconst 1, 1) := by decide +kernel
theorem dX9_move_10 : decode cX9_move 10 = .ok (.goto 42, 3) := by decide +kernel
theorem dX9_move_13 : decode cX9_move 13 = .ok (.iload_n 2, 1) := by decide +kernel
theorem dX9_move_14 : decode cX9_move 14 = .ok (.sipush (-400), 3) := by decide +kernel
theorem dX9_move_17 : decode cX9_move 17 = .ok (.sipush 400, 3) := by decide +kernel
theorem dX9_move_20 : decode cX9_move 20 = .ok (.invokestatic 61, 3) := by decide +kernel
theorem dX9_move_23 : decode cX9_move 23 = .ok (.ifCond .eq 16, 3) := by decide +kernel
theorem dX9_move_26 : decode cX9_move 26 = .ok (.iload_n 3, 1) := by decide +kernel
theorem dX9_move_27 : decode cX9_move 27 = .ok (.sipush (-400), 3) := by decide +kernel
theorem dX9_move_30 : decode cX9_move 30 = .ok (.sipush 400, 3) := by decide +kernel
theorem dX9_move_33 : decode cX9_move 33 = .ok (.invokestatic 61, 3) := by decide +kernel
theorem dX9_move_36 : decode cX9_move 36 = .ok (.ifCond .ne 7, 3) := by decide +kernel
theorem dX9_move_39 : decode cX9_move 39 = .ok (.iconst 2, 1) := by decide +kernel
theorem dX9_move_40 : decode cX9_move 40 = .ok (.goto 12, 3) := by decide +kernel
theorem dX9_move_43 : decode cX9_move 43 = .ok (.iload_n 1, 1) := by decide +kernel
theorem dX9_move_44 : decode cX9_move 44 = .ok (.ifCond .ne 7, 3) := by decide +kernel
theorem dX9_move_47 : decode cX9_move 47 = .ok (.iconst 3, 1) := by decide +kernel
theorem dX9_move_48 : decode cX9_move 48 = .ok (.goto 4, 3) := by decide +kernel
theorem dX9_move_51 : decode cX9_move 51 = .ok (.iconst 0, 1) := by decide +kernel
theorem dX9_move_52 : decode cX9_move 52 = .ok (.invokevirtual 57, 3) := by decide +kernel
theorem dX9_move_55 : decode cX9_move 55 = .ok (.ifCond .eq 5, 3) := by decide +kernel
theorem dX9_move_58 : decode cX9_move 58 = .ok (.iconst 0, 1) := by decide +kernel
theorem dX9_move_59 : decode cX9_move 59 = .ok (.ireturn, 1) := by decide +kernel
theorem dX9_move_60 : decode cX9_move 60 = .ok (.aload_n 0, 1) := by decide +kernel
theorem dX9_move_61 : decode cX9_move 61 = .ok (.iload_n 1, 1) := by decide +kernel
theorem dX9_move_62 : decode cX9_move 62 = .ok (.iconst 1, 1) := by decide +kernel
theorem dX9_move_63 : decode cX9_move 63 = .ok (.iconst 1, 1) := by decide +kernel
theorem dX9_move_64 : decode cX9_move 64 = .ok (.invokevirtual 72, 3) := by decide +kernel
theorem dX9_move_67 : decode cX9_move 67 = .ok (.istore 4, 2) := by decide +kernel
theorem dX9_move_69 : decode cX9_move 69 = .ok (.aload_n 0, 1) := by decide +kernel
theorem dX9_move_70 : decode cX9_move 70 = .ok (.invokevirtual 141, 3) := by decide +kernel
theorem dX9_move_73 : decode cX9_move 73 = .ok (.aload_n 0, 1) := by decide +kernel
theorem dX9_move_74 : decode cX9_move 74 = .ok (.iload_n 1, 1) := by decide +kernel
theorem dX9_move_75 : decode cX9_move 75 = .ok (.iconst 1, 1) := by decide +kernel
theorem dX9_move_76 : decode cX9_move 76 = .ok (.iload_n 2, 1) := by decide +kernel
theorem dX9_move_77 : decode cX9_move 77 = .ok (.invokevirtual 94, 3) := by decide +kernel
theorem dX9_move_80 : decode cX9_move 80 = .ok (.aload_n 0, 1) := by decide +kernel
theorem dX9_move_81 : decode cX9_move 81 = .ok (.iload_n 1, 1) := by decide +kernel
theorem dX9_move_82 : decode cX9_move 82 = .ok (.iconst 2, 1) := by decide +kernel
theorem dX9_move_83 : decode cX9_move 83 = .ok (.iload_n 3, 1) := by decide +kernel
theorem dX9_move_84 : decode cX9_move 84 = .ok (.invokevirtual 94, 3) := by decide +kernel
theorem dX9_move_87 : decode cX9_move 87 = .ok (.iload 4, 2) := by decide +kernel
theorem dX9_move_89 : decode cX9_move 89 = .ok (.ireturn, 1) := by decide +kernel
abbrev rmX9_move : Room := { frames := 2, cells := 0, slots := 0, locals := 44 }
theorem hdX9_move : yX9_move.cls ≠ "java/lang/invoke/MethodHandle" ∧ yX9_move.cls ≠ "java/lang/invoke/VarHandle" ∧ (parseMethodDescriptor yX9_move.desc).map (fun d => d.parameters.length) = some 3 := by decide +kernel
def fX9_move_52 (b : Nat) (σ : Sg) (l1 : Int32) (l2 : Int32) (l3 : Int32) (s1 : Int32) : Option (Int32 × Sg) :=
  (fX9_refused σ b s1).bind fun r4 =>
  if r4.1 = true then
    some (0, r4.2)
  else
    (fX9_window r4.2 b l1 1 1).bind fun r5 =>
    (fX9_saves r4.2 b).bind fun σ6 =>
    (fX9_puts σ6 b l1 1 l2).bind fun σ7 =>
    (fX9_puts σ7 b l1 2 l3).bind fun σ8 =>
    some (r5, σ8)
theorem bX9_move_52 {X : Xc} {K : Kc} (C : MC X K cX9_move 5 RX9 rmX9_move) (hr : K.meth.sig.returnType = (some .int)) (b : Nat) (hb : moOK b) (σ : Sg) (l1 : Int32) (l2 : Int32) (l3 : Int32) (s1 : Int32) : GO X K 5 (fun r => MQi X K r.1 r.2) (fX9_move_52 b σ l1 l2 l3 s1) σ 0 0 52 [some (.ref (X.ad b)), some (.int (l1)), some (.int (l2)), some (.int (l3)), none] [.int (s1), .ref (X.ad b)] := by
  unfold fX9_move_52
  refine g_callVi (pc := 52) (As := [.int (s1)]) C (kX9_refused X σ b s1 hb) (blk hb 0 rfl) rfl q_10_9 q_10_10 q_10_11 q_1_5 q_10_12 ⟨rfl, hdX9_refused⟩ ⟨Nat.le_of_ble_eq_true rfl, Nat.le_of_ble_eq_true rfl, rfl, rfl⟩ ⟨Nat.zero_le _, Nat.zero_le _⟩ (Nat.le_of_ble_eq_true rfl) rfl rfl dX9_move_52 (fun r4 _ => ?_)
  refine g_ifb_eq (pc := 55) (tgt := 60) C dX9_move_55 rfl ?_ ?_
  · refine g_iconst (pc := 58) (v := 0) C dX9_move_58 (by decide) ?_
    exact g_iret (pc := 59) C hr dX9_move_59 rfl
  · refine g_aload_n (pc := 60) (i := 0) C dX9_move_60 rfl rfl ?_
    refine g_iload_n (pc := 61) (i := 1) C dX9_move_61 rfl rfl ?_
    refine g_iconst (pc := 62) (v := 1) C dX9_move_62 (by decide) ?_
    refine g_iconst (pc := 63) (v := 1) C dX9_move_63 (by decide) ?_
    refine g_callVi (pc := 64) (As := [.int (l1), .int (1), .int (1)]) C (kX9_window X r4.2 b l1 1 1 hb) (blk hb 0 rfl) rfl q_22_12 q_22_13 q_22_14 q_1_5 q_22_15 ⟨rfl, hdX9_window⟩ ⟨Nat.le_of_ble_eq_true rfl, Nat.le_of_ble_eq_true rfl, rfl, rfl⟩ ⟨Nat.zero_le _, Nat.zero_le _⟩ (Nat.le_of_ble_eq_true rfl) rfl rfl dX9_move_64 (fun r5 _ => ?_)
    refine g_istore (pc := 67) C dX9_move_67 (Nat.le_of_ble_eq_true rfl) rfl ?_
    refine g_aload_n (pc := 69) (i := 0) C dX9_move_69 rfl rfl ?_
    refine g_callVv (pc := 70) (As := []) C (kX9_saves X r4.2 b hb) (blk hb 0 rfl) rfl q_10_14 q_10_15 q_10_16 q_1_5 q_10_17 ⟨rfl, hdX9_saves⟩ ⟨Nat.le_of_ble_eq_true rfl, Nat.le_of_ble_eq_true rfl, rfl, rfl⟩ ⟨Nat.zero_le _, Nat.zero_le _⟩ (Nat.le_of_ble_eq_true rfl) rfl rfl dX9_move_70 (fun σ6 _ => ?_)
    refine g_aload_n (pc := 73) (i := 0) C dX9_move_73 rfl rfl ?_
    refine g_iload_n (pc := 74) (i := 1) C dX9_move_74 rfl rfl ?_
    refine g_iconst (pc := 75) (v := 1) C dX9_move_75 (by decide) ?_
    refine g_iload_n (pc := 76) (i := 2) C dX9_move_76 rfl rfl ?_
    refine g_callVv (pc := 77) (As := [.int (l1), .int (1), .int (l2)]) C (kX9_puts X σ6 b l1 1 l2 hb) (blk hb 0 rfl) rfl q_22_16 q_22_17 q_22_18 q_1_5 q_22_19 ⟨rfl, hdX9_puts⟩ ⟨Nat.le_of_ble_eq_true rfl, Nat.le_of_ble_eq_true rfl, rfl, rfl⟩ ⟨Nat.zero_le _, Nat.zero_le _⟩ (Nat.le_of_ble_eq_true rfl) rfl rfl dX9_move_77 (fun σ7 _ => ?_)
    refine g_aload_n (pc := 80) (i := 0) C dX9_move_80 rfl rfl ?_
    refine g_iload_n (pc := 81) (i := 1) C dX9_move_81 rfl rfl ?_
    refine g_iconst (pc := 82) (v := 2) C dX9_move_82 (by decide) ?_
    refine g_iload_n (pc := 83) (i := 3) C dX9_move_83 rfl rfl ?_
    refine g_callVv (pc := 84) (As := [.int (l1), .int (2), .int (l3)]) C (kX9_puts X σ7 b l1 2 l3 hb) (blk hb 0 rfl) rfl q_22_16 q_22_17 q_22_18 q_1_5 q_22_19 ⟨rfl, hdX9_puts⟩ ⟨Nat.le_of_ble_eq_true rfl, Nat.le_of_ble_eq_true rfl, rfl, rfl⟩ ⟨Nat.zero_le _, Nat.zero_le _⟩ (Nat.le_of_ble_eq_true rfl) rfl rfl dX9_move_84 (fun σ8 _ => ?_)
    refine g_iload (pc := 87) C dX9_move_87 rfl ?_
    exact g_iret (pc := 89) C hr dX9_move_89 rfl
def fX9_move_39 (b : Nat) (σ : Sg) (l1 : Int32) (l2 : Int32) (l3 : Int32) : Option (Int32 × Sg) :=
  (fX9_move_52 b σ l1 l2 l3 2)
theorem bX9_move_39 {X : Xc} {K : Kc} (C : MC X K cX9_move 5 RX9 rmX9_move) (hr : K.meth.sig.returnType = (some .int)) (b : Nat) (hb : moOK b) (σ : Sg) (l1 : Int32) (l2 : Int32) (l3 : Int32) : GO X K 5 (fun r => MQi X K r.1 r.2) (fX9_move_39 b σ l1 l2 l3) σ 0 0 39 [some (.ref (X.ad b)), some (.int (l1)), some (.int (l2)), some (.int (l3)), none] [.ref (X.ad b)] := by
  unfold fX9_move_39
  refine g_iconst (pc := 39) (v := 2) C dX9_move_39 (by decide) ?_
  refine g_goto (pc := 40) (tgt := 52) C dX9_move_40 rfl ?_
  refine g_keep [true, true, true, true, false] ?_
  exact bX9_move_52 C hr b hb σ l1 l2 l3 2
def fX9_move (σ : Sg) (b : Nat) (p1 : Int32) (p2 : Int32) (p3 : Int32) : Option (Int32 × Sg) :=
  (fX9_isWindow σ b p1).bind fun r1 =>
  if r1 = true then
    (fX9_within σ p2 (-400) 400).bind fun r2 =>
    if r2 = true then
      (fX9_within σ p3 (-400) 400).bind fun r3 =>
      if r3 = true then
        if p1 = 0 then
          (fX9_move_52 b σ p1 p2 p3 3)
        else
          (fX9_move_52 b σ p1 p2 p3 0)
      else
        (fX9_move_39 b σ p1 p2 p3)
    else
      (fX9_move_39 b σ p1 p2 p3)
  else
    (fX9_move_52 b σ p1 p2 p3 1)
theorem kX9_move (X : Xc) (σ : Sg) (b : Nat) (p1 : Int32) (p2 : Int32) (p3 : Int32) (hb : moOK b) : ∀ r, fX9_move σ b p1 p2 p3 = some r → Met X.l yX9_move (wsM yX9_move cX9_move 5 (some .int)) rmX9_move (va_Pc [.ref (X.ad b), .int p1, .int p2, .int p3] (PW X σ)) (Qi X r.1 r.2) 0 0 X.A := by
  refine mt_of (own := RX9) (lo := [some (.ref (X.ad b)), some (.int (p1)), some (.int (p2)), some (.int (p3)), none]) (by decide) rfl (Nat.le_of_ble_eq_true rfl) rfl (fun K C hr => ?_)
  unfold fX9_move
  refine g_aload_n (pc := 0) (i := 0) C dX9_move_0 rfl rfl ?_
  refine g_aload_n (pc := 1) (i := 0) C dX9_move_1 rfl rfl ?_
  refine g_iload_n (pc := 2) (i := 1) C dX9_move_2 rfl rfl ?_
  refine g_callVi (pc := 3) (As := [.int (p1)]) C (kX9_isWindow X σ b p1 hb) (blk hb 0 rfl) rfl q_27_9 q_27_10 q_27_11 q_1_5 q_27_12 ⟨rfl, hdX9_isWindow⟩ ⟨Nat.le_of_ble_eq_true rfl, Nat.le_of_ble_eq_true rfl, rfl, rfl⟩ ⟨Nat.zero_le _, Nat.zero_le _⟩ (Nat.le_of_ble_eq_true rfl) rfl rfl dX9_move_3 (fun r1 _ => ?_)
  refine g_ifb_ne (pc := 6) (tgt := 13) C dX9_move_6 rfl ?_ ?_
  · refine g_iload_n (pc := 13) (i := 2) C dX9_move_13 rfl rfl ?_
    refine g_sipush (pc := 14) (v := (-400)) C dX9_move_14 (by decide) ?_
    refine g_sipush (pc := 17) (v := 400) C dX9_move_17 (by decide) ?_
    refine g_callSi (pc := 20) (As := [.int (p2), .int ((-400)), .int (400)]) C (kX9_within X σ p2 (-400) 400) q_10_6 q_10_7 q_1_5 q_10_8 hdX9_within ⟨Nat.le_of_ble_eq_true rfl, Nat.le_of_ble_eq_true rfl, rfl, rfl⟩ ⟨Nat.zero_le _, Nat.zero_le _⟩ (Nat.le_of_ble_eq_true rfl) rfl rfl dX9_move_20 (fun r2 _ => ?_)
    refine g_ifb_eq (pc := 23) (tgt := 39) C dX9_move_23 rfl ?_ ?_
    · refine g_iload_n (pc := 26) (i := 3) C dX9_move_26 rfl rfl ?_
      refine g_sipush (pc := 27) (v := (-400)) C dX9_move_27 (by decide) ?_
      refine g_sipush (pc := 30) (v := 400) C dX9_move_30 (by decide) ?_
      refine g_callSi (pc := 33) (As := [.int (p3), .int ((-400)), .int (400)]) C (kX9_within X σ p3 (-400) 400) q_10_6 q_10_7 q_1_5 q_10_8 hdX9_within ⟨Nat.le_of_ble_eq_true rfl, Nat.le_of_ble_eq_true rfl, rfl, rfl⟩ ⟨Nat.zero_le _, Nat.zero_le _⟩ (Nat.le_of_ble_eq_true rfl) rfl rfl dX9_move_33 (fun r3 _ => ?_)
      refine g_ifb_ne (pc := 36) (tgt := 43) C dX9_move_36 rfl ?_ ?_
      · refine g_iload_n (pc := 43) (i := 1) C dX9_move_43 rfl rfl ?_
        refine g_if_ne (pc := 44) (tgt := 51) C dX9_move_44 rfl ?_ ?_
        · refine g_iconst (pc := 47) (v := 3) C dX9_move_47 (by decide) ?_
          refine g_goto (pc := 48) (tgt := 52) C dX9_move_48 rfl ?_
          refine g_keep [true, true, true, true, false] ?_
          exact bX9_move_52 C hr b hb σ p1 p2 p3 3
        · refine g_iconst (pc := 51) (v := 0) C dX9_move_51 (by decide) ?_
          refine g_keep [true, true, true, true, false] ?_
          exact bX9_move_52 C hr b hb σ p1 p2 p3 0
      · refine g_keep [true, true, true, true, false] ?_
        exact bX9_move_39 C hr b hb σ p1 p2 p3
    · refine g_keep [true, true, true, true, false] ?_
      exact bX9_move_39 C hr b hb σ p1 p2 p3
  · refine g_iconst (pc := 9) (v := 1) C dX9_move_9 (by decide) ?_
    refine g_goto (pc := 10) (tgt := 52) C dX9_move_10 rfl ?_
    refine g_keep [true, true, true, true, false] ?_
    exact bX9_move_52 C hr b hb σ p1 p2 p3 1
theorem dX9_raise_0 : decode cX9_raise 0 = .ok (.aload_n 0, 1) := by decide +kernel
theorem dX9_raise_1 : decode cX9_raise 1 = .ok (.aload_n 0, 1) := by decide +kernel
theorem dX9_raise_2 : decode cX9_raise 2 = .ok (.iload_n 1, 1) := by decide +kernel
theorem dX9_raise_3 : decode cX9_raise 3 = .ok (.invokevirtual 187, 3) := by decide +kernel
theorem dX9_raise_6 : decode cX9_raise 6 = .ok (.ifCond .ne 7, 3) := by decide +kernel
theorem dX9_raise_9 : decode cX9_raise 9 = .ok (.iconst 1, 1) := by decide +kernel
theorem dX9_raise_10 : decode cX9_raise 10 = .ok (.goto 12, 3) := by decide +kernel
theorem dX9_raise_13 : decode cX9_raise 13 = .ok (.iload_n 1, 1) := by decide +kernel
theorem dX9_raise_14 : decode cX9_raise 14 = .ok (.ifCond .ne 7, 3) := by decide +kernel
theorem dX9_raise_17 : decode cX9_raise 17 = .ok (.iconst 2, 1) := by decide +kernel
theorem dX9_raise_18 : decode cX9_raise 18 = .ok (.goto 4, 3) := by decide +kernel
theorem dX9_raise_21 : decode cX9_raise 21 = .ok (.iconst 0, 1) := by decide +kernel
theorem dX9_raise_22 : decode cX9_raise 22 = .ok (.invokevirtual 57, 3) := by decide +kernel
theorem dX9_raise_25 : decode cX9_raise 25 = .ok (.ifCond .eq 5, 3) := by decide +kernel
theorem dX9_raise_28 : decode cX9_raise 28 = .ok (.iconst 0, 1) := by decide +kernel
theorem dX9_raise_29 : decode cX9_raise 29 = .ok (.ireturn, 1) := by decide +kernel
theorem dX9_raise_30 : decode cX9_raise 30 = .ok (.aload_n 0, 1) := by decide +kernel
theorem dX9_raise_31 : decode cX9_raise 31 = .ok (.sipush 246, 3) := by decide +kernel
theorem dX9_raise_34 : decode cX9_raise 34 = .ok (.iload_n 1, 1) := by decide +kernel
theorem dX9_raise_35 : decode cX9_raise 35 = .ok (.invokevirtual 97, 3) := by decide +kernel
theorem dX9_raise_38 : decode cX9_raise 38 = .ok (.istore_n 2, 1) := by decide +kernel
theorem dX9_raise_39 : decode cX9_raise 39 = .ok (.aload_n 0, 1) := by decide +kernel
theorem dX9_raise_40 : decode cX9_raise 40 = .ok (.invokevirtual 141, 3) := by decide +kernel
theorem dX9_raise_43 : decode cX9_raise 43 = .ok (.aload_n 0, 1) := by decide +kernel
theorem dX9_raise_44 : decode cX9_raise 44 = .ok (.sipush 246, 3) := by decide +kernel
theorem dX9_raise_47 : decode cX9_raise 47 = .ok (.iload_n 1, 1) := by decide +kernel
theorem dX9_raise_48 : decode cX9_raise 48 = .ok (.invokevirtual 104, 3) := by decide +kernel
theorem dX9_raise_51 : decode cX9_raise 51 = .ok (.iload_n 2, 1) := by decide +kernel
theorem dX9_raise_52 : decode cX9_raise 52 = .ok (.ireturn, 1) := by decide +kernel
abbrev rmX9_raise : Room := { frames := 3, cells := 0, slots := 0, locals := 69 }
theorem hdX9_raise : yX9_raise.cls ≠ "java/lang/invoke/MethodHandle" ∧ yX9_raise.cls ≠ "java/lang/invoke/VarHandle" ∧ (parseMethodDescriptor yX9_raise.desc).map (fun d => d.parameters.length) = some 1 := by decide +kernel
def fX9_raise_22 (b : Nat) (σ : Sg) (l1 : Int32) (s1 : Int32) : Option (Int32 × Sg) :=
  (fX9_refused σ b s1).bind fun r2 =>
  if r2.1 = true then
    some (0, r2.2)
  else
    (fX9_placeIn r2.2 b 246 l1).bind fun r3 =>
    (fX9_saves r2.2 b).bind fun σ4 =>
    (fX9_comesLast σ4 b 246 l1).bind fun σ5 =>
    some (r3, σ5)
theorem bX9_raise_22 {X : Xc} {K : Kc} (C : MC X K cX9_raise 3 RX9 rmX9_raise) (hr : K.meth.sig.returnType = (some .int)) (b : Nat) (hb : moOK b) (σ : Sg) (l1 : Int32) (s1 : Int32) : GO X K 3 (fun r => MQi X K r.1 r.2) (fX9_raise_22 b σ l1 s1) σ 0 0 22 [some (.ref (X.ad b)), some (.int (l1)), none] [.int (s1), .ref (X.ad b)] := by
  unfold fX9_raise_22
  refine g_callVi (pc := 22) (As := [.int (s1)]) C (kX9_refused X σ b s1 hb) (blk hb 0 rfl) rfl q_10_9 q_10_10 q_10_11 q_1_5 q_10_12 ⟨rfl, hdX9_refused⟩ ⟨Nat.le_of_ble_eq_true rfl, Nat.le_of_ble_eq_true rfl, rfl, rfl⟩ ⟨Nat.zero_le _, Nat.zero_le _⟩ (Nat.le_of_ble_eq_true rfl) rfl rfl dX9_raise_22 (fun r2 _ => ?_)
  refine g_ifb_eq (pc := 25) (tgt := 30) C dX9_raise_25 rfl ?_ ?_
  · refine g_iconst (pc := 28) (v := 0) C dX9_raise_28 (by decide) ?_
    exact g_iret (pc := 29) C hr dX9_raise_29 rfl
  · refine g_aload_n (pc := 30) (i := 0) C dX9_raise_30 rfl rfl ?_
    refine g_sipush (pc := 31) (v := 246) C dX9_raise_31 (by decide) ?_
    refine g_iload_n (pc := 34) (i := 1) C dX9_raise_34 rfl rfl ?_
    refine g_callVi (pc := 35) (As := [.int (246), .int (l1)]) C (kX9_placeIn X r2.2 b 246 l1 hb) (blk hb 0 rfl) rfl q_23_0 q_23_1 q_23_2 q_1_5 q_23_3 ⟨rfl, hdX9_placeIn⟩ ⟨Nat.le_of_ble_eq_true rfl, Nat.le_of_ble_eq_true rfl, rfl, rfl⟩ ⟨Nat.zero_le _, Nat.zero_le _⟩ (Nat.le_of_ble_eq_true rfl) rfl rfl dX9_raise_35 (fun r3 _ => ?_)
    refine g_istore_n (pc := 38) (i := 2) C dX9_raise_38 rfl (Nat.le_of_ble_eq_true rfl) rfl ?_
    refine g_aload_n (pc := 39) (i := 0) C dX9_raise_39 rfl rfl ?_
    refine g_callVv (pc := 40) (As := []) C (kX9_saves X r2.2 b hb) (blk hb 0 rfl) rfl q_10_14 q_10_15 q_10_16 q_1_5 q_10_17 ⟨rfl, hdX9_saves⟩ ⟨Nat.le_of_ble_eq_true rfl, Nat.le_of_ble_eq_true rfl, rfl, rfl⟩ ⟨Nat.zero_le _, Nat.zero_le _⟩ (Nat.le_of_ble_eq_true rfl) rfl rfl dX9_raise_40 (fun σ4 _ => ?_)
    refine g_aload_n (pc := 43) (i := 0) C dX9_raise_43 rfl rfl ?_
    refine g_sipush (pc := 44) (v := 246) C dX9_raise_44 (by decide) ?_
    refine g_iload_n (pc := 47) (i := 1) C dX9_raise_47 rfl rfl ?_
    refine g_callVv (pc := 48) (As := [.int (246), .int (l1)]) C (kX9_comesLast X σ4 b 246 l1 hb) (blk hb 0 rfl) rfl q_31_22 q_31_23 q_32_0 q_1_5 q_32_1 ⟨rfl, hdX9_comesLast⟩ ⟨Nat.le_of_ble_eq_true rfl, Nat.le_of_ble_eq_true rfl, rfl, rfl⟩ ⟨Nat.zero_le _, Nat.zero_le _⟩ (Nat.le_of_ble_eq_true rfl) rfl rfl dX9_raise_48 (fun σ5 _ => ?_)
    refine g_iload_n (pc := 51) (i := 2) C dX9_raise_51 rfl rfl ?_
    exact g_iret (pc := 52) C hr dX9_raise_52 rfl
def fX9_raise (σ : Sg) (b : Nat) (p1 : Int32) : Option (Int32 × Sg) :=
  (fX9_isWindow σ b p1).bind fun r1 =>
  if r1 = true then
    if p1 = 0 then
      (fX9_raise_22 b σ p1 2)
    else
      (fX9_raise_22 b σ p1 0)
  else
    (fX9_raise_22 b σ p1 1)
theorem kX9_raise (X : Xc) (σ : Sg) (b : Nat) (p1 : Int32) (hb : moOK b) : ∀ r, fX9_raise σ b p1 = some r → Met X.l yX9_raise (wsM yX9_raise cX9_raise 3 (some .int)) rmX9_raise (va_Pc [.ref (X.ad b), .int p1] (PW X σ)) (Qi X r.1 r.2) 0 0 X.A := by
  refine mt_of (own := RX9) (lo := [some (.ref (X.ad b)), some (.int (p1)), none]) (by decide) rfl (Nat.le_of_ble_eq_true rfl) rfl (fun K C hr => ?_)
  unfold fX9_raise
  refine g_aload_n (pc := 0) (i := 0) C dX9_raise_0 rfl rfl ?_
  refine g_aload_n (pc := 1) (i := 0) C dX9_raise_1 rfl rfl ?_
  refine g_iload_n (pc := 2) (i := 1) C dX9_raise_2 rfl rfl ?_
  refine g_callVi (pc := 3) (As := [.int (p1)]) C (kX9_isWindow X σ b p1 hb) (blk hb 0 rfl) rfl q_27_9 q_27_10 q_27_11 q_1_5 q_27_12 ⟨rfl, hdX9_isWindow⟩ ⟨Nat.le_of_ble_eq_true rfl, Nat.le_of_ble_eq_true rfl, rfl, rfl⟩ ⟨Nat.zero_le _, Nat.zero_le _⟩ (Nat.le_of_ble_eq_true rfl) rfl rfl dX9_raise_3 (fun r1 _ => ?_)
  refine g_ifb_ne (pc := 6) (tgt := 13) C dX9_raise_6 rfl ?_ ?_
  · refine g_iload_n (pc := 13) (i := 1) C dX9_raise_13 rfl rfl ?_
    refine g_if_ne (pc := 14) (tgt := 21) C dX9_raise_14 rfl ?_ ?_
    · refine g_iconst (pc := 17) (v := 2) C dX9_raise_17 (by decide) ?_
      refine g_goto (pc := 18) (tgt := 22) C dX9_raise_18 rfl ?_
      refine g_keep [true, true, false] ?_
      exact bX9_raise_22 C hr b hb σ p1 2
    · refine g_iconst (pc := 21) (v := 0) C dX9_raise_21 (by decide) ?_
      refine g_keep [true, true, false] ?_
      exact bX9_raise_22 C hr b hb σ p1 0
  · refine g_iconst (pc := 9) (v := 1) C dX9_raise_9 (by decide) ?_
    refine g_goto (pc := 10) (tgt := 22) C dX9_raise_10 rfl ?_
    refine g_keep [true, true, false] ?_
    exact bX9_raise_22 C hr b hb σ p1 1
theorem dX9_windowTold_0 : decode cX9_windowTold 0 = .ok (.aload_n 0, 1) := by decide +kernel
theorem dX9_windowTold_1 : decode cX9_windowTold 1 = .ok (.iload_n 1, 1) := by decide +kernel
theorem dX9_windowTold_2 : decode cX9_windowTold 2 = .ok (.iconst 5, 1) := by decide +kernel
theorem dX9_windowTold_3 : decode cX9_windowTold 3 = .ok (.iconst 1, 1) := by decide +kernel
theorem dX9_windowTold_4 : decode cX9_windowTold 4 = .ok (.invokevirtual 72, 3) := by decide +kernel
theorem dX9_windowTold_7 : decode cX9_windowTold 7 = .ok (.istore_n 3, 1) := by decide +kernel
theorem dX9_windowTold_8 : decode cX9_windowTold 8 = .ok (.iload_n 2, 1) := by decide +kernel
theorem dX9_windowTold_9 : decode cX9_windowTold 9 = .ok (.tableswitch 85 4 7 #[31, 37, 37, 68], 31) := by decide +kernel
theorem dX9_windowTold_40 : decode cX9_windowTold 40 = .ok (.aload_n 0, 1) := by decide +kernel
theorem dX9_windowTold_41 : decode cX9_windowTold 41 = .ok (.iload_n 1, 1) := by decide +kernel
theorem dX9_windowTold_42 : decode cX9_windowTold 42 = .ok (.invokevirtual 199, 3) := by decide +kernel
theorem dX9_windowTold_45 : decode cX9_windowTold 45 = .ok (.ireturn, 1) := by decide +kernel
theorem dX9_windowTold_46 : decode cX9_windowTold 46 = .ok (.iload_n 3, 1) := by decide +kernel
theorem dX9_windowTold_47 : decode cX9_windowTold 47 = .ok (.iconst (-1), 1) := by decide +kernel
theorem dX9_windowTold_48 : decode cX9_windowTold 48 = .ok (.if_icmp .eq 27, 3) := by decide +kernel
theorem dX9_windowTold_51 : decode cX9_windowTold 51 = .ok (.aload_n 0, 1) := by decide +kernel
theorem dX9_windowTold_52 : decode cX9_windowTold 52 = .ok (.getfield 22, 3) := by decide +kernel
theorem dX9_windowTold_55 : decode cX9_windowTold 55 = .ok (.iload_n 3, 1) := by decide +kernel
theorem dX9_windowTold_56 : decode cX9_windowTold 56 = .ok (.baload, 1) := by decide +kernel
theorem dX9_windowTold_57 : decode cX9_windowTold 57 = .ok (.ifCond .eq 18, 3) := by decide +kernel
theorem dX9_windowTold_60 : decode cX9_windowTold 60 = .ok (.aload_n 0, 1) := by decide +kernel
theorem dX9_windowTold_61 : decode cX9_windowTold 61 = .ok (.getfield 26, 3) := by decide +kernel
theorem dX9_windowTold_64 : decode cX9_windowTold 64 = .ok (.iconst 2, 1) := by decide +kernel
theorem dX9_windowTold_65 : decode cX9_windowTold 65 = .ok (.iload_n 3, 1) := by decide +kernel
theorem dX9_windowTold_66 : decode cX9_windowTold 66 = .ok (.imul, 1) := by decide +kernel
theorem dX9_windowTold_67 : decode cX9_windowTold 67 = .ok (.iload_n 2, 1) := by decide +kernel
theorem dX9_windowTold_68 : decode cX9_windowTold 68 = .ok (.iadd, 1) := by decide +kernel
theorem dX9_windowTold_69 : decode cX9_windowTold 69 = .ok (.iconst 5, 1) := by decide +kernel
theorem dX9_windowTold_70 : decode cX9_windowTold 70 = .ok (.isub, 1) := by decide +kernel
theorem dX9_windowTold_71 : decode cX9_windowTold 71 = .ok (.iaload, 1) := by decide +kernel
theorem dX9_windowTold_72 : decode cX9_windowTold 72 = .ok (.goto 4, 3) := by decide +kernel
theorem dX9_windowTold_75 : decode cX9_windowTold 75 = .ok (.iconst 0, 1) := by decide +kernel
theorem dX9_windowTold_76 : decode cX9_windowTold 76 = .ok (.ireturn, 1) := by decide +kernel
theorem dX9_windowTold_77 : decode cX9_windowTold 77 = .ok (.iload_n 1, 1) := by decide +kernel
theorem dX9_windowTold_78 : decode cX9_windowTold 78 = .ok (.ifCond .ne 7, 3) := by decide +kernel
theorem dX9_windowTold_81 : decode cX9_windowTold 81 = .ok (.iconst (-1), 1) := by decide +kernel
theorem dX9_windowTold_82 : decode cX9_windowTold 82 = .ok (.goto 11, 3) := by decide +kernel
theorem dX9_windowTold_85 : decode cX9_windowTold 85 = .ok (.aload_n 0, 1) := by decide +kernel
theorem dX9_windowTold_86 : decode cX9_windowTold 86 = .ok (.sipush 246, 3) := by decide +kernel
theorem dX9_windowTold_89 : decode cX9_windowTold 89 = .ok (.iload_n 1, 1) := by decide +kernel
theorem dX9_windowTold_90 : decode cX9_windowTold 90 = .ok (.invokevirtual 97, 3) := by decide +kernel
theorem dX9_windowTold_93 : decode cX9_windowTold 93 = .ok (.ireturn, 1) := by decide +kernel
theorem dX9_windowTold_94 : decode cX9_windowTold 94 = .ok (.aload_n 0, 1) := by decide +kernel
theorem dX9_windowTold_95 : decode cX9_windowTold 95 = .ok (.iload_n 1, 1) := by decide +kernel
theorem dX9_windowTold_96 : decode cX9_windowTold 96 = .ok (.iconst 1, 1) := by decide +kernel
theorem dX9_windowTold_97 : decode cX9_windowTold 97 = .ok (.iload_n 2, 1) := by decide +kernel
theorem dX9_windowTold_98 : decode cX9_windowTold 98 = .ok (.iadd, 1) := by decide +kernel
theorem dX9_windowTold_99 : decode cX9_windowTold 99 = .ok (.iconst 1, 1) := by decide +kernel
theorem dX9_windowTold_100 : decode cX9_windowTold 100 = .ok (.invokevirtual 72, 3) := by decide +kernel
theorem dX9_windowTold_103 : decode cX9_windowTold 103 = .ok (.ireturn, 1) := by decide +kernel
abbrev rmX9_windowTold : Room := { frames := 4, cells := 0, slots := 0, locals := 90 }
theorem hdX9_windowTold : yX9_windowTold.cls ≠ "java/lang/invoke/MethodHandle" ∧ yX9_windowTold.cls ≠ "java/lang/invoke/VarHandle" ∧ (parseMethodDescriptor yX9_windowTold.desc).map (fun d => d.parameters.length) = some 2 := by decide +kernel
def fX9_windowTold (σ : Sg) (b : Nat) (p1 : Int32) (p2 : Int32) : Option Int32 :=
  (fX9_window σ b p1 5 1).bind fun r1 =>
  if p2 = 4 then
    (fX9_placedIn σ b p1).bind fun r2 =>
    some r2
  else if p2 = 5 then
    if r1 = (-1) then
      some 0
    else
      if ck r1 24 then
        if (σ.1 (b + 5) r1.toNatClampNeg) = 0 then
          some 0
        else
          if ck (((2 * r1) + p2) - 5) 48 then
            some (σ.1 (b + 6) (((2 * r1) + p2) - 5).toNatClampNeg)
          else none
      else none
  else if p2 = 6 then
    if r1 = (-1) then
      some 0
    else
      if ck r1 24 then
        if (σ.1 (b + 5) r1.toNatClampNeg) = 0 then
          some 0
        else
          if ck (((2 * r1) + p2) - 5) 48 then
            some (σ.1 (b + 6) (((2 * r1) + p2) - 5).toNatClampNeg)
          else none
      else none
  else if p2 = 7 then
    if p1 = 0 then
      some (-1)
    else
      (fX9_placeIn σ b 246 p1).bind fun r3 =>
      some r3
  else 
    (fX9_window σ b p1 (1 + p2) 1).bind fun r4 =>
    some r4
theorem kX9_windowTold (X : Xc) (σ : Sg) (b : Nat) (p1 : Int32) (p2 : Int32) (hb : moOK b) : ∀ r, fX9_windowTold σ b p1 p2 = some r → Met X.l yX9_windowTold (wsM yX9_windowTold cX9_windowTold 4 (some .int)) rmX9_windowTold (va_Pc [.ref (X.ad b), .int p1, .int p2] (PW X σ)) (Qi X r σ) 0 0 X.A := by
  refine mt_of (own := RX9) (lo := [some (.ref (X.ad b)), some (.int (p1)), some (.int (p2)), none]) (by decide) rfl (Nat.le_of_ble_eq_true rfl) rfl (fun K C hr => ?_)
  unfold fX9_windowTold
  refine g_aload_n (pc := 0) (i := 0) C dX9_windowTold_0 rfl rfl ?_
  refine g_iload_n (pc := 1) (i := 1) C dX9_windowTold_1 rfl rfl ?_
  refine g_iconst (pc := 2) (v := 5) C dX9_windowTold_2 (by decide) ?_
  refine g_iconst (pc := 3) (v := 1) C dX9_windowTold_3 (by decide) ?_
  refine g_callVi (pc := 4) (As := [.int (p1), .int (5), .int (1)]) C (kX9_window X σ b p1 5 1 hb) (blk hb 0 rfl) rfl q_22_12 q_22_13 q_22_14 q_1_5 q_22_15 ⟨rfl, hdX9_window⟩ ⟨Nat.le_of_ble_eq_true rfl, Nat.le_of_ble_eq_true rfl, rfl, rfl⟩ ⟨Nat.zero_le _, Nat.zero_le _⟩ (Nat.le_of_ble_eq_true rfl) rfl rfl dX9_windowTold_4 (fun r1 _ => ?_)
  refine g_istore_n (pc := 7) (i := 3) C dX9_windowTold_7 rfl (Nat.le_of_ble_eq_true rfl) rfl ?_
  refine g_iload_n (pc := 8) (i := 2) C dX9_windowTold_8 rfl rfl ?_
  refine g_ite (fun hz => ?_) (fun hz4 => ?_)
  · refine g_tabin (pc := 9) (tgt := 40) (z := 4) C dX9_windowTold_9 hz (by decide) (by decide) rfl rfl ?_
    refine g_aload_n (pc := 40) (i := 0) C dX9_windowTold_40 rfl rfl ?_
    refine g_iload_n (pc := 41) (i := 1) C dX9_windowTold_41 rfl rfl ?_
    refine g_callVi (pc := 42) (As := [.int (p1)]) C (kX9_placedIn X σ b p1 hb) (blk hb 0 rfl) rfl q_30_7 q_30_8 q_30_9 q_1_5 q_30_10 ⟨rfl, hdX9_placedIn⟩ ⟨Nat.le_of_ble_eq_true rfl, Nat.le_of_ble_eq_true rfl, rfl, rfl⟩ ⟨Nat.zero_le _, Nat.zero_le _⟩ (Nat.le_of_ble_eq_true rfl) rfl rfl dX9_windowTold_42 (fun r2 _ => ?_)
    exact g_iret (pc := 45) C hr dX9_windowTold_45 rfl
  refine g_ite (fun hz => ?_) (fun hz5 => ?_)
  · refine g_tabin (pc := 9) (tgt := 46) (z := 5) C dX9_windowTold_9 hz (by decide) (by decide) rfl rfl ?_
    refine g_iload_n (pc := 46) (i := 3) C dX9_windowTold_46 rfl rfl ?_
    refine g_iconst (pc := 47) (v := (-1)) C dX9_windowTold_47 (by decide) ?_
    refine g_icmp_eq (pc := 48) (tgt := 75) C dX9_windowTold_48 rfl ?_ ?_
    · refine g_iconst (pc := 75) (v := 0) C dX9_windowTold_75 (by decide) ?_
      exact g_iret (pc := 76) C hr dX9_windowTold_76 rfl
    · refine g_aload_n (pc := 51) (i := 0) C dX9_windowTold_51 rfl rfl ?_
      refine g_getr (pc := 52) (ci := 9) (N := 27) (T := TX9) (j := 7) (Cn := RX9) (b + 5) C rfl inlX9 (Nat.le_of_ble_eq_true rfl) q_6_7 (blk hb 0 rfl) rfl dX9_windowTold_52 ?_
      refine g_iload_n (pc := 55) (i := 3) C dX9_windowTold_55 rfl rfl ?_
      refine g_baload (pc := 56) C (blk hb 5 rfl) dX9_windowTold_56 ?_
      refine g_if_eq (pc := 57) (tgt := 75) C dX9_windowTold_57 rfl ?_ ?_
      · refine g_iconst (pc := 75) (v := 0) C dX9_windowTold_75 (by decide) ?_
        exact g_iret (pc := 76) C hr dX9_windowTold_76 rfl
      · refine g_aload_n (pc := 60) (i := 0) C dX9_windowTold_60 rfl rfl ?_
        refine g_getr (pc := 61) (ci := 9) (N := 27) (T := TX9) (j := 8) (Cn := RX9) (b + 6) C rfl inlX9 (Nat.le_of_ble_eq_true rfl) q_6_8 (blk hb 0 rfl) rfl dX9_windowTold_61 ?_
        refine g_iconst (pc := 64) (v := 2) C dX9_windowTold_64 (by decide) ?_
        refine g_iload_n (pc := 65) (i := 3) C dX9_windowTold_65 rfl rfl ?_
        refine g_imul (pc := 66) C dX9_windowTold_66 ?_
        refine g_iload_n (pc := 67) (i := 2) C dX9_windowTold_67 rfl rfl ?_
        refine g_iadd (pc := 68) C dX9_windowTold_68 ?_
        refine g_iconst (pc := 69) (v := 5) C dX9_windowTold_69 (by decide) ?_
        refine g_isub (pc := 70) C dX9_windowTold_70 ?_
        refine g_iaload (pc := 71) C (blk hb 6 rfl) dX9_windowTold_71 ?_
        refine g_goto (pc := 72) (tgt := 76) C dX9_windowTold_72 rfl ?_
        exact g_iret (pc := 76) C hr dX9_windowTold_76 rfl
  refine g_ite (fun hz => ?_) (fun hz6 => ?_)
  · refine g_tabin (pc := 9) (tgt := 46) (z := 6) C dX9_windowTold_9 hz (by decide) (by decide) rfl rfl ?_
    refine g_iload_n (pc := 46) (i := 3) C dX9_windowTold_46 rfl rfl ?_
    refine g_iconst (pc := 47) (v := (-1)) C dX9_windowTold_47 (by decide) ?_
    refine g_icmp_eq (pc := 48) (tgt := 75) C dX9_windowTold_48 rfl ?_ ?_
    · refine g_iconst (pc := 75) (v := 0) C dX9_windowTold_75 (by decide) ?_
      exact g_iret (pc := 76) C hr dX9_windowTold_76 rfl
    · refine g_aload_n (pc := 51) (i := 0) C dX9_windowTold_51 rfl rfl ?_
      refine g_getr (pc := 52) (ci := 9) (N := 27) (T := TX9) (j := 7) (Cn := RX9) (b + 5) C rfl inlX9 (Nat.le_of_ble_eq_true rfl) q_6_7 (blk hb 0 rfl) rfl dX9_windowTold_52 ?_
      refine g_iload_n (pc := 55) (i := 3) C dX9_windowTold_55 rfl rfl ?_
      refine g_baload (pc := 56) C (blk hb 5 rfl) dX9_windowTold_56 ?_
      refine g_if_eq (pc := 57) (tgt := 75) C dX9_windowTold_57 rfl ?_ ?_
      · refine g_iconst (pc := 75) (v := 0) C dX9_windowTold_75 (by decide) ?_
        exact g_iret (pc := 76) C hr dX9_windowTold_76 rfl
      · refine g_aload_n (pc := 60) (i := 0) C dX9_windowTold_60 rfl rfl ?_
        refine g_getr (pc := 61) (ci := 9) (N := 27) (T := TX9) (j := 8) (Cn := RX9) (b + 6) C rfl inlX9 (Nat.le_of_ble_eq_true rfl) q_6_8 (blk hb 0 rfl) rfl dX9_windowTold_61 ?_
        refine g_iconst (pc := 64) (v := 2) C dX9_windowTold_64 (by decide) ?_
        refine g_iload_n (pc := 65) (i := 3) C dX9_windowTold_65 rfl rfl ?_
        refine g_imul (pc := 66) C dX9_windowTold_66 ?_
        refine g_iload_n (pc := 67) (i := 2) C dX9_windowTold_67 rfl rfl ?_
        refine g_iadd (pc := 68) C dX9_windowTold_68 ?_
        refine g_iconst (pc := 69) (v := 5) C dX9_windowTold_69 (by decide) ?_
        refine g_isub (pc := 70) C dX9_windowTold_70 ?_
        refine g_iaload (pc := 71) C (blk hb 6 rfl) dX9_windowTold_71 ?_
        refine g_goto (pc := 72) (tgt := 76) C dX9_windowTold_72 rfl ?_
        exact g_iret (pc := 76) C hr dX9_windowTold_76 rfl
  refine g_ite (fun hz => ?_) (fun hz7 => ?_)
  · refine g_tabin (pc := 9) (tgt := 77) (z := 7) C dX9_windowTold_9 hz (by decide) (by decide) rfl rfl ?_
    refine g_iload_n (pc := 77) (i := 1) C dX9_windowTold_77 rfl rfl ?_
    refine g_if_ne (pc := 78) (tgt := 85) C dX9_windowTold_78 rfl ?_ ?_
    · refine g_iconst (pc := 81) (v := (-1)) C dX9_windowTold_81 (by decide) ?_
      refine g_goto (pc := 82) (tgt := 93) C dX9_windowTold_82 rfl ?_
      exact g_iret (pc := 93) C hr dX9_windowTold_93 rfl
    · refine g_aload_n (pc := 85) (i := 0) C dX9_windowTold_85 rfl rfl ?_
      refine g_sipush (pc := 86) (v := 246) C dX9_windowTold_86 (by decide) ?_
      refine g_iload_n (pc := 89) (i := 1) C dX9_windowTold_89 rfl rfl ?_
      refine g_callVi (pc := 90) (As := [.int (246), .int (p1)]) C (kX9_placeIn X σ b 246 p1 hb) (blk hb 0 rfl) rfl q_23_0 q_23_1 q_23_2 q_1_5 q_23_3 ⟨rfl, hdX9_placeIn⟩ ⟨Nat.le_of_ble_eq_true rfl, Nat.le_of_ble_eq_true rfl, rfl, rfl⟩ ⟨Nat.zero_le _, Nat.zero_le _⟩ (Nat.le_of_ble_eq_true rfl) rfl rfl dX9_windowTold_90 (fun r3 _ => ?_)
      exact g_iret (pc := 93) C hr dX9_windowTold_93 rfl
  refine g_tabout (pc := 9) (tgt := 94) C dX9_windowTold_9 (tsw_out4_7 hz4 hz5 hz6 hz7) rfl ?_
  refine g_aload_n (pc := 94) (i := 0) C dX9_windowTold_94 rfl rfl ?_
  refine g_iload_n (pc := 95) (i := 1) C dX9_windowTold_95 rfl rfl ?_
  refine g_iconst (pc := 96) (v := 1) C dX9_windowTold_96 (by decide) ?_
  refine g_iload_n (pc := 97) (i := 2) C dX9_windowTold_97 rfl rfl ?_
  refine g_iadd (pc := 98) C dX9_windowTold_98 ?_
  refine g_iconst (pc := 99) (v := 1) C dX9_windowTold_99 (by decide) ?_
  refine g_callVi (pc := 100) (As := [.int (p1), .int (1 + p2), .int (1)]) C (kX9_window X σ b p1 (1 + p2) 1 hb) (blk hb 0 rfl) rfl q_22_12 q_22_13 q_22_14 q_1_5 q_22_15 ⟨rfl, hdX9_window⟩ ⟨Nat.le_of_ble_eq_true rfl, Nat.le_of_ble_eq_true rfl, rfl, rfl⟩ ⟨Nat.zero_le _, Nat.zero_le _⟩ (Nat.le_of_ble_eq_true rfl) rfl rfl dX9_windowTold_100 (fun r4 _ => ?_)
  exact g_iret (pc := 103) C hr dX9_windowTold_103 rfl
theorem dX9_window__0 : decode cX9_window_ 0 = .ok (.aload_n 0, 1) := by decide +kernel
theorem dX9_window__1 : decode cX9_window_ 1 = .ok (.aload_n 0, 1) := by decide +kernel
theorem dX9_window__2 : decode cX9_window_ 2 = .ok (.iload_n 1, 1) := by decide +kernel
theorem dX9_window__3 : decode cX9_window_ 3 = .ok (.invokevirtual 187, 3) := by decide +kernel
theorem dX9_window__6 : decode cX9_window_ 6 = .ok (.ifCond .ne 7, 3) := by decide +kernel
theorem dX9_window__9 : decode cX9_window_ 9 = .ok (.iconst 1, 1) := by decide +kernel
theorem dX9_window__10 : decode cX9_window_ 10 = .ok (.goto 18, 3) := by decide +kernel
theorem dX9_window__13 : decode cX9_window_ 13 = .ok (.iload_n 2, 1) := by decide +kernel
theorem dX9_window__14 : decode cX9_window_ 14 = .ok (.iconst 0, 1) := by decide +kernel
theorem dX9_window__15 : decode cX9_window_ 15 = .ok (.bipush 7, 2) := by decide +kernel
theorem dX9_window__17 : decode cX9_window_ 17 = .ok (.invokestatic 61, 3) := by decide +kernel
theorem dX9_window__20 : decode cX9_window_ 20 = .ok (.ifCond .ne 7, 3) := by decide +kernel
theorem dX9_window__23 : decode cX9_window_ 23 = .ok (.iconst 2, 1) := by decide +kernel
theorem dX9_window__24 : decode cX9_window_ 24 = .ok (.goto 4, 3) := by decide +kernel
theorem dX9_window__27 : decode cX9_window_ 27 = .ok (.iconst 0, 1) := by decide +kernel
theorem dX9_window__28 : decode cX9_window_ 28 = .ok (.invokevirtual 57, 3) := by decide +kernel
theorem dX9_window__31 : decode cX9_window_ 31 = .ok (.ifCond .eq 5, 3) := by decide +kernel
theorem dX9_window__34 : decode cX9_window_ 34 = .ok (.iconst 0, 1) := by decide +kernel
theorem dX9_window__35 : decode cX9_window_ 35 = .ok (.ireturn, 1) := by decide +kernel
theorem dX9_window__36 : decode cX9_window_ 36 = .ok (.aload_n 0, 1) := by decide +kernel
theorem dX9_window__37 : decode cX9_window_ 37 = .ok (.invokevirtual 193, 3) := by decide +kernel
theorem dX9_window__40 : decode cX9_window_ 40 = .ok (.aload_n 0, 1) := by decide +kernel
theorem dX9_window__41 : decode cX9_window_ 41 = .ok (.iload_n 1, 1) := by decide +kernel
theorem dX9_window__42 : decode cX9_window_ 42 = .ok (.iload_n 2, 1) := by decide +kernel
theorem dX9_window__43 : decode cX9_window_ 43 = .ok (.invokevirtual 202, 3) := by decide +kernel
theorem dX9_window__46 : decode cX9_window_ 46 = .ok (.ireturn, 1) := by decide +kernel
abbrev rmX9_window_ : Room := { frames := 8, cells := 0, slots := 0, locals := 205 }
theorem hdX9_window_ : yX9_window_.cls ≠ "java/lang/invoke/MethodHandle" ∧ yX9_window_.cls ≠ "java/lang/invoke/VarHandle" ∧ (parseMethodDescriptor yX9_window_.desc).map (fun d => d.parameters.length) = some 2 := by decide +kernel
def fX9_window__28 (b : Nat) (σ : Sg) (l1 : Int32) (l2 : Int32) (s1 : Int32) : Option (Int32 × Sg) :=
  (fX9_refused σ b s1).bind fun r3 =>
  if r3.1 = true then
    some (0, r3.2)
  else
    (fX9_lays r3.2 b).bind fun σ4 =>
    (fX9_windowTold σ4 b l1 l2).bind fun r5 =>
    some (r5, σ4)
theorem bX9_window__28 {X : Xc} {K : Kc} (C : MC X K cX9_window_ 3 RX9 rmX9_window_) (hr : K.meth.sig.returnType = (some .int)) (b : Nat) (hb : moOK b) (σ : Sg) (l1 : Int32) (l2 : Int32) (s1 : Int32) : GO X K 3 (fun r => MQi X K r.1 r.2) (fX9_window__28 b σ l1 l2 s1) σ 0 0 28 [some (.ref (X.ad b)), some (.int (l1)), some (.int (l2))] [.int (s1), .ref (X.ad b)] := by
  unfold fX9_window__28
  refine g_callVi (pc := 28) (As := [.int (s1)]) C (kX9_refused X σ b s1 hb) (blk hb 0 rfl) rfl q_10_9 q_10_10 q_10_11 q_1_5 q_10_12 ⟨rfl, hdX9_refused⟩ ⟨Nat.le_of_ble_eq_true rfl, Nat.le_of_ble_eq_true rfl, rfl, rfl⟩ ⟨Nat.zero_le _, Nat.zero_le _⟩ (Nat.le_of_ble_eq_true rfl) rfl rfl dX9_window__28 (fun r3 _ => ?_)
  refine g_ifb_eq (pc := 31) (tgt := 36) C dX9_window__31 rfl ?_ ?_
  · refine g_iconst (pc := 34) (v := 0) C dX9_window__34 (by decide) ?_
    exact g_iret (pc := 35) C hr dX9_window__35 rfl
  · refine g_aload_n (pc := 36) (i := 0) C dX9_window__36 rfl rfl ?_
    refine g_callVv (pc := 37) (As := []) C (kX9_lays X r3.2 b hb) (blk hb 0 rfl) rfl q_26_21 q_26_22 q_26_23 q_1_5 q_27_0 ⟨rfl, hdX9_lays⟩ ⟨Nat.le_of_ble_eq_true rfl, Nat.le_of_ble_eq_true rfl, rfl, rfl⟩ ⟨Nat.zero_le _, Nat.zero_le _⟩ (Nat.le_of_ble_eq_true rfl) rfl rfl dX9_window__37 (fun σ4 _ => ?_)
    refine g_aload_n (pc := 40) (i := 0) C dX9_window__40 rfl rfl ?_
    refine g_iload_n (pc := 41) (i := 1) C dX9_window__41 rfl rfl ?_
    refine g_iload_n (pc := 42) (i := 2) C dX9_window__42 rfl rfl ?_
    refine g_callVi (pc := 43) (As := [.int (l1), .int (l2)]) C (kX9_windowTold X σ4 b l1 l2 hb) (blk hb 0 rfl) rfl q_32_15 q_32_16 q_32_17 q_1_5 q_32_18 ⟨rfl, hdX9_windowTold⟩ ⟨Nat.le_of_ble_eq_true rfl, Nat.le_of_ble_eq_true rfl, rfl, rfl⟩ ⟨Nat.zero_le _, Nat.zero_le _⟩ (Nat.le_of_ble_eq_true rfl) rfl rfl dX9_window__43 (fun r5 _ => ?_)
    exact g_iret (pc := 46) C hr dX9_window__46 rfl
def fX9_window_ (σ : Sg) (b : Nat) (p1 : Int32) (p2 : Int32) : Option (Int32 × Sg) :=
  (fX9_isWindow σ b p1).bind fun r1 =>
  if r1 = true then
    (fX9_within σ p2 0 7).bind fun r2 =>
    if r2 = true then
      (fX9_window__28 b σ p1 p2 0)
    else
      (fX9_window__28 b σ p1 p2 2)
  else
    (fX9_window__28 b σ p1 p2 1)
theorem kX9_window_ (X : Xc) (σ : Sg) (b : Nat) (p1 : Int32) (p2 : Int32) (hb : moOK b) : ∀ r, fX9_window_ σ b p1 p2 = some r → Met X.l yX9_window_ (wsM yX9_window_ cX9_window_ 3 (some .int)) rmX9_window_ (va_Pc [.ref (X.ad b), .int p1, .int p2] (PW X σ)) (Qi X r.1 r.2) 0 0 X.A := by
  refine mt_of (own := RX9) (lo := [some (.ref (X.ad b)), some (.int (p1)), some (.int (p2))]) (by decide) rfl (Nat.le_of_ble_eq_true rfl) rfl (fun K C hr => ?_)
  unfold fX9_window_
  refine g_aload_n (pc := 0) (i := 0) C dX9_window__0 rfl rfl ?_
  refine g_aload_n (pc := 1) (i := 0) C dX9_window__1 rfl rfl ?_
  refine g_iload_n (pc := 2) (i := 1) C dX9_window__2 rfl rfl ?_
  refine g_callVi (pc := 3) (As := [.int (p1)]) C (kX9_isWindow X σ b p1 hb) (blk hb 0 rfl) rfl q_27_9 q_27_10 q_27_11 q_1_5 q_27_12 ⟨rfl, hdX9_isWindow⟩ ⟨Nat.le_of_ble_eq_true rfl, Nat.le_of_ble_eq_true rfl, rfl, rfl⟩ ⟨Nat.zero_le _, Nat.zero_le _⟩ (Nat.le_of_ble_eq_true rfl) rfl rfl dX9_window__3 (fun r1 _ => ?_)
  refine g_ifb_ne (pc := 6) (tgt := 13) C dX9_window__6 rfl ?_ ?_
  · refine g_iload_n (pc := 13) (i := 2) C dX9_window__13 rfl rfl ?_
    refine g_iconst (pc := 14) (v := 0) C dX9_window__14 (by decide) ?_
    refine g_bipush (pc := 15) (v := 7) C dX9_window__15 (by decide) ?_
    refine g_callSi (pc := 17) (As := [.int (p2), .int (0), .int (7)]) C (kX9_within X σ p2 0 7) q_10_6 q_10_7 q_1_5 q_10_8 hdX9_within ⟨Nat.le_of_ble_eq_true rfl, Nat.le_of_ble_eq_true rfl, rfl, rfl⟩ ⟨Nat.zero_le _, Nat.zero_le _⟩ (Nat.le_of_ble_eq_true rfl) rfl rfl dX9_window__17 (fun r2 _ => ?_)
    refine g_ifb_ne (pc := 20) (tgt := 27) C dX9_window__20 rfl ?_ ?_
    · refine g_iconst (pc := 27) (v := 0) C dX9_window__27 (by decide) ?_
      refine g_keep [true, true, true] ?_
      exact bX9_window__28 C hr b hb σ p1 p2 0
    · refine g_iconst (pc := 23) (v := 2) C dX9_window__23 (by decide) ?_
      refine g_goto (pc := 24) (tgt := 28) C dX9_window__24 rfl ?_
      refine g_keep [true, true, true] ?_
      exact bX9_window__28 C hr b hb σ p1 p2 2
  · refine g_iconst (pc := 9) (v := 1) C dX9_window__9 (by decide) ?_
    refine g_goto (pc := 10) (tgt := 28) C dX9_window__10 rfl ?_
    refine g_keep [true, true, true] ?_
    exact bX9_window__28 C hr b hb σ p1 p2 1
theorem dX9_floating_0 : decode cX9_floating 0 = .ok (.aload_n 0, 1) := by decide +kernel
theorem dX9_floating_1 : decode cX9_floating 1 = .ok (.iconst 0, 1) := by decide +kernel
theorem dX9_floating_2 : decode cX9_floating 2 = .ok (.putfield 50, 3) := by decide +kernel
theorem dX9_floating_5 : decode cX9_floating 5 = .ok (.iload_n 1, 1) := by decide +kernel
theorem dX9_floating_6 : decode cX9_floating 6 = .ok (.iconst 0, 1) := by decide +kernel
theorem dX9_floating_7 : decode cX9_floating 7 = .ok (.aload_n 0, 1) := by decide +kernel
theorem dX9_floating_8 : decode cX9_floating 8 = .ok (.getfield 7, 3) := by decide +kernel
theorem dX9_floating_11 : decode cX9_floating 11 = .ok (.sipush 246, 3) := by decide +kernel
theorem dX9_floating_14 : decode cX9_floating 14 = .ok (.iaload, 1) := by decide +kernel
theorem dX9_floating_15 : decode cX9_floating 15 = .ok (.iconst 1, 1) := by decide +kernel
theorem dX9_floating_16 : decode cX9_floating 16 = .ok (.isub, 1) := by decide +kernel
theorem dX9_floating_17 : decode cX9_floating 17 = .ok (.invokestatic 61, 3) := by decide +kernel
theorem dX9_floating_20 : decode cX9_floating 20 = .ok (.ifCond .eq 16, 3) := by decide +kernel
theorem dX9_floating_23 : decode cX9_floating 23 = .ok (.aload_n 0, 1) := by decide +kernel
theorem dX9_floating_24 : decode cX9_floating 24 = .ok (.getfield 7, 3) := by decide +kernel
theorem dX9_floating_27 : decode cX9_floating 27 = .ok (.sipush 247, 3) := by decide +kernel
theorem dX9_floating_30 : decode cX9_floating 30 = .ok (.iload_n 1, 1) := by decide +kernel
theorem dX9_floating_31 : decode cX9_floating 31 = .ok (.iadd, 1) := by decide +kernel
theorem dX9_floating_32 : decode cX9_floating 32 = .ok (.iaload, 1) := by decide +kernel
theorem dX9_floating_33 : decode cX9_floating 33 = .ok (.goto 4, 3) := by decide +kernel
theorem dX9_floating_36 : decode cX9_floating 36 = .ok (.iconst (-1), 1) := by decide +kernel
theorem dX9_floating_37 : decode cX9_floating 37 = .ok (.ireturn, 1) := by decide +kernel
abbrev rmX9_floating : Room := { frames := 1, cells := 0, slots := 0, locals := 22 }
theorem hdX9_floating : yX9_floating.cls ≠ "java/lang/invoke/MethodHandle" ∧ yX9_floating.cls ≠ "java/lang/invoke/VarHandle" ∧ (parseMethodDescriptor yX9_floating.desc).map (fun d => d.parameters.length) = some 1 := by decide +kernel
def fX9_floating (σ : Sg) (b : Nat) (p1 : Int32) : Option (Int32 × Sg) :=
  nm (su σ b 3 0) fun σ1 =>
  if ck 246 921 then
    (fX9_within σ1 p1 0 ((σ1.1 (b + 1) (246 : Int32).toNatClampNeg) - 1)).bind fun r2 =>
    if r2 = true then
      if ck (247 + p1) 921 then
        some (σ1.1 (b + 1) (247 + p1).toNatClampNeg, σ1)
      else none
    else
      some ((-1), σ1)
  else none
theorem kX9_floating (X : Xc) (σ : Sg) (b : Nat) (p1 : Int32) (hb : moOK b) : ∀ r, fX9_floating σ b p1 = some r → Met X.l yX9_floating (wsM yX9_floating cX9_floating 2 (some .int)) rmX9_floating (va_Pc [.ref (X.ad b), .int p1] (PW X σ)) (Qi X r.1 r.2) 0 0 X.A := by
  refine mt_of (own := RX9) (lo := [some (.ref (X.ad b)), some (.int (p1))]) (by decide) rfl (Nat.le_of_ble_eq_true rfl) rfl (fun K C hr => ?_)
  unfold fX9_floating
  refine g_aload_n (pc := 0) (i := 0) C dX9_floating_0 rfl rfl ?_
  refine g_iconst (pc := 1) (v := 0) C dX9_floating_1 (by decide) ?_
  refine g_puti (pc := 2) (ci := 9) (N := 27) (T := TX9) (j := 3) (Cn := RX9) C rfl inlX9 tyX9_ok nmX9 (Nat.le_of_ble_eq_true rfl) q_10_13 (blk hb 0 rfl) rfl rfl rfl dX9_floating_2 ?_
  refine g_nms (fun σ1 => ?_)
  refine g_iload_n (pc := 5) (i := 1) C dX9_floating_5 rfl rfl ?_
  refine g_iconst (pc := 6) (v := 0) C dX9_floating_6 (by decide) ?_
  refine g_aload_n (pc := 7) (i := 0) C dX9_floating_7 rfl rfl ?_
  refine g_getr (pc := 8) (ci := 9) (N := 27) (T := TX9) (j := 0) (Cn := RX9) (b + 1) C rfl inlX9 (Nat.le_of_ble_eq_true rfl) q_6_2 (blk hb 0 rfl) rfl dX9_floating_8 ?_
  refine g_sipush (pc := 11) (v := 246) C dX9_floating_11 (by decide) ?_
  refine g_iaload (pc := 14) C (blk hb 1 rfl) dX9_floating_14 ?_
  refine g_iconst (pc := 15) (v := 1) C dX9_floating_15 (by decide) ?_
  refine g_isub (pc := 16) C dX9_floating_16 ?_
  refine g_callSi (pc := 17) (As := [.int (p1), .int (0), .int ((σ1.1 (b + 1) (246 : Int32).toNatClampNeg) - 1)]) C (kX9_within X σ1 p1 0 ((σ1.1 (b + 1) (246 : Int32).toNatClampNeg) - 1)) q_10_6 q_10_7 q_1_5 q_10_8 hdX9_within ⟨Nat.le_of_ble_eq_true rfl, Nat.le_of_ble_eq_true rfl, rfl, rfl⟩ ⟨Nat.zero_le _, Nat.zero_le _⟩ (Nat.le_of_ble_eq_true rfl) rfl rfl dX9_floating_17 (fun r2 _ => ?_)
  refine g_ifb_eq (pc := 20) (tgt := 36) C dX9_floating_20 rfl ?_ ?_
  · refine g_aload_n (pc := 23) (i := 0) C dX9_floating_23 rfl rfl ?_
    refine g_getr (pc := 24) (ci := 9) (N := 27) (T := TX9) (j := 0) (Cn := RX9) (b + 1) C rfl inlX9 (Nat.le_of_ble_eq_true rfl) q_6_2 (blk hb 0 rfl) rfl dX9_floating_24 ?_
    refine g_sipush (pc := 27) (v := 247) C dX9_floating_27 (by decide) ?_
    refine g_iload_n (pc := 30) (i := 1) C dX9_floating_30 rfl rfl ?_
    refine g_iadd (pc := 31) C dX9_floating_31 ?_
    refine g_iaload (pc := 32) C (blk hb 1 rfl) dX9_floating_32 ?_
    refine g_goto (pc := 33) (tgt := 37) C dX9_floating_33 rfl ?_
    exact g_iret (pc := 37) C hr dX9_floating_37 rfl
  · refine g_iconst (pc := 36) (v := (-1)) C dX9_floating_36 (by decide) ?_
    exact g_iret (pc := 37) C hr dX9_floating_37 rfl
theorem dX9_beside_0 : decode cX9_beside 0 = .ok (.iload_n 2, 1) := by decide +kernel
theorem dX9_beside_1 : decode cX9_beside 1 = .ok (.iconst 2, 1) := by decide +kernel
theorem dX9_beside_2 : decode cX9_beside 2 = .ok (.idiv, 1) := by decide +kernel
theorem dX9_beside_3 : decode cX9_beside 3 = .ok (.istore_n 3, 1) := by decide +kernel
theorem dX9_beside_4 : decode cX9_beside 4 = .ok (.iload_n 2, 1) := by decide +kernel
theorem dX9_beside_5 : decode cX9_beside 5 = .ok (.iconst 2, 1) := by decide +kernel
theorem dX9_beside_6 : decode cX9_beside 6 = .ok (.irem, 1) := by decide +kernel
theorem dX9_beside_7 : decode cX9_beside 7 = .ok (.istore 4, 2) := by decide +kernel
theorem dX9_beside_9 : decode cX9_beside 9 = .ok (.aload_n 0, 1) := by decide +kernel
theorem dX9_beside_10 : decode cX9_beside 10 = .ok (.iload_n 1, 1) := by decide +kernel
theorem dX9_beside_11 : decode cX9_beside 11 = .ok (.iconst 1, 1) := by decide +kernel
theorem dX9_beside_12 : decode cX9_beside 12 = .ok (.invokevirtual 76, 3) := by decide +kernel
theorem dX9_beside_15 : decode cX9_beside 15 = .ok (.istore 5, 2) := by decide +kernel
theorem dX9_beside_17 : decode cX9_beside 17 = .ok (.aload_n 0, 1) := by decide +kernel
theorem dX9_beside_18 : decode cX9_beside 18 = .ok (.iconst 2, 1) := by decide +kernel
theorem dX9_beside_19 : decode cX9_beside 19 = .ok (.invokevirtual 211, 3) := by decide +kernel
theorem dX9_beside_22 : decode cX9_beside 22 = .ok (.istore 6, 2) := by decide +kernel
theorem dX9_beside_24 : decode cX9_beside 24 = .ok (.iload 5, 2) := by decide +kernel
theorem dX9_beside_26 : decode cX9_beside 26 = .ok (.iconst (-1), 1) := by decide +kernel
theorem dX9_beside_27 : decode cX9_beside 27 = .ok (.if_icmp .eq 93, 3) := by decide +kernel
theorem dX9_beside_30 : decode cX9_beside 30 = .ok (.aload_n 0, 1) := by decide +kernel
theorem dX9_beside_31 : decode cX9_beside 31 = .ok (.iload 5, 2) := by decide +kernel
theorem dX9_beside_33 : decode cX9_beside 33 = .ok (.iconst 2, 1) := by decide +kernel
theorem dX9_beside_34 : decode cX9_beside 34 = .ok (.invokevirtual 76, 3) := by decide +kernel
theorem dX9_beside_37 : decode cX9_beside 37 = .ok (.iload_n 3, 1) := by decide +kernel
theorem dX9_beside_38 : decode cX9_beside 38 = .ok (.if_icmp .ne 82, 3) := by decide +kernel
theorem dX9_beside_41 : decode cX9_beside 41 = .ok (.aload_n 0, 1) := by decide +kernel
theorem dX9_beside_42 : decode cX9_beside 42 = .ok (.iload_n 1, 1) := by decide +kernel
theorem dX9_beside_43 : decode cX9_beside 43 = .ok (.iconst 3, 1) := by decide +kernel
theorem dX9_beside_44 : decode cX9_beside 44 = .ok (.invokevirtual 76, 3) := by decide +kernel
theorem dX9_beside_47 : decode cX9_beside 47 = .ok (.istore 7, 2) := by decide +kernel
theorem dX9_beside_49 : decode cX9_beside 49 = .ok (.iload 7, 2) := by decide +kernel
theorem dX9_beside_51 : decode cX9_beside 51 = .ok (.iconst 2, 1) := by decide +kernel
theorem dX9_beside_52 : decode cX9_beside 52 = .ok (.idiv, 1) := by decide +kernel
theorem dX9_beside_53 : decode cX9_beside 53 = .ok (.iconst 1, 1) := by decide +kernel
theorem dX9_beside_54 : decode cX9_beside 54 = .ok (.if_icmp .le 10, 3) := by decide +kernel
theorem dX9_beside_57 : decode cX9_beside 57 = .ok (.iload 7, 2) := by decide +kernel
theorem dX9_beside_59 : decode cX9_beside 59 = .ok (.iconst 2, 1) := by decide +kernel
theorem dX9_beside_60 : decode cX9_beside 60 = .ok (.idiv, 1) := by decide +kernel
theorem dX9_beside_61 : decode cX9_beside 61 = .ok (.goto 4, 3) := by decide +kernel
theorem dX9_beside_64 : decode cX9_beside 64 = .ok (.iconst 1, 1) := by decide +kernel
theorem dX9_beside_65 : decode cX9_beside 65 = .ok (.istore 8, 2) := by decide +kernel
theorem dX9_beside_67 : decode cX9_beside 67 = .ok (.aload_n 0, 1) := by decide +kernel
theorem dX9_beside_68 : decode cX9_beside 68 = .ok (.iload 6, 2) := by decide +kernel
theorem dX9_beside_70 : decode cX9_beside 70 = .ok (.iload 5, 2) := by decide +kernel
theorem dX9_beside_72 : decode cX9_beside 72 = .ok (.aload_n 0, 1) := by decide +kernel
theorem dX9_beside_73 : decode cX9_beside 73 = .ok (.iload_n 1, 1) := by decide +kernel
theorem dX9_beside_74 : decode cX9_beside 74 = .ok (.iconst 4, 1) := by decide +kernel
theorem dX9_beside_75 : decode cX9_beside 75 = .ok (.invokevirtual 76, 3) := by decide +kernel
theorem dX9_beside_78 : decode cX9_beside 78 = .ok (.iload 4, 2) := by decide +kernel
theorem dX9_beside_80 : decode cX9_beside 80 = .ok (.iadd, 1) := by decide +kernel
theorem dX9_beside_81 : decode cX9_beside 81 = .ok (.invokevirtual 214, 3) := by decide +kernel
theorem dX9_beside_84 : decode cX9_beside 84 = .ok (.aload_n 0, 1) := by decide +kernel
theorem dX9_beside_85 : decode cX9_beside 85 = .ok (.iload 6, 2) := by decide +kernel
theorem dX9_beside_87 : decode cX9_beside 87 = .ok (.iconst 3, 1) := by decide +kernel
theorem dX9_beside_88 : decode cX9_beside 88 = .ok (.iload 8, 2) := by decide +kernel
theorem dX9_beside_90 : decode cX9_beside 90 = .ok (.invokevirtual 79, 3) := by decide +kernel
theorem dX9_beside_93 : decode cX9_beside 93 = .ok (.aload_n 0, 1) := by decide +kernel
theorem dX9_beside_94 : decode cX9_beside 94 = .ok (.iload_n 1, 1) := by decide +kernel
theorem dX9_beside_95 : decode cX9_beside 95 = .ok (.iconst 3, 1) := by decide +kernel
theorem dX9_beside_96 : decode cX9_beside 96 = .ok (.iload 7, 2) := by decide +kernel
theorem dX9_beside_98 : decode cX9_beside 98 = .ok (.iload 8, 2) := by decide +kernel
theorem dX9_beside_100 : decode cX9_beside 100 = .ok (.isub, 1) := by decide +kernel
theorem dX9_beside_101 : decode cX9_beside 101 = .ok (.iconst 1, 1) := by decide +kernel
theorem dX9_beside_102 : decode cX9_beside 102 = .ok (.if_icmp .le 11, 3) := by decide +kernel
theorem dX9_beside_105 : decode cX9_beside 105 = .ok (.iload 7, 2) := by decide +kernel
theorem dX9_beside_107 : decode cX9_beside 107 = .ok (.iload 8, 2) := by decide +kernel
theorem dX9_beside_109 : decode cX9_beside 109 = .ok (.isub, 1) := by decide +kernel
theorem dX9_beside_110 : decode cX9_beside 110 = .ok (.goto 4, 3) := by decide +kernel
theorem dX9_beside_113 : decode cX9_beside 113 = .ok (.iconst 1, 1) := by decide +kernel
theorem dX9_beside_114 : decode cX9_beside 114 = .ok (.invokevirtual 79, 3) := by decide +kernel
theorem dX9_beside_117 : decode cX9_beside 117 = .ok (.iload 6, 2) := by decide +kernel
theorem dX9_beside_119 : decode cX9_beside 119 = .ok (.ireturn, 1) := by decide +kernel
theorem dX9_beside_120 : decode cX9_beside 120 = .ok (.aload_n 0, 1) := by decide +kernel
theorem dX9_beside_121 : decode cX9_beside 121 = .ok (.iconst 1, 1) := by decide +kernel
theorem dX9_beside_122 : decode cX9_beside 122 = .ok (.invokevirtual 211, 3) := by decide +kernel
theorem dX9_beside_125 : decode cX9_beside 125 = .ok (.istore 7, 2) := by decide +kernel
theorem dX9_beside_127 : decode cX9_beside 127 = .ok (.aload_n 0, 1) := by decide +kernel
theorem dX9_beside_128 : decode cX9_beside 128 = .ok (.iload 7, 2) := by decide +kernel
theorem dX9_beside_130 : decode cX9_beside 130 = .ok (.iconst 2, 1) := by decide +kernel
theorem dX9_beside_131 : decode cX9_beside 131 = .ok (.iload_n 3, 1) := by decide +kernel
theorem dX9_beside_132 : decode cX9_beside 132 = .ok (.invokevirtual 79, 3) := by decide +kernel
theorem dX9_beside_135 : decode cX9_beside 135 = .ok (.aload_n 0, 1) := by decide +kernel
theorem dX9_beside_136 : decode cX9_beside 136 = .ok (.iload 7, 2) := by decide +kernel
theorem dX9_beside_138 : decode cX9_beside 138 = .ok (.iload_n 1, 1) := by decide +kernel
theorem dX9_beside_139 : decode cX9_beside 139 = .ok (.invokevirtual 119, 3) := by decide +kernel
theorem dX9_beside_142 : decode cX9_beside 142 = .ok (.aload_n 0, 1) := by decide +kernel
theorem dX9_beside_143 : decode cX9_beside 143 = .ok (.iload_n 1, 1) := by decide +kernel
theorem dX9_beside_144 : decode cX9_beside 144 = .ok (.iconst 1, 1) := by decide +kernel
theorem dX9_beside_145 : decode cX9_beside 145 = .ok (.iload 7, 2) := by decide +kernel
theorem dX9_beside_147 : decode cX9_beside 147 = .ok (.invokevirtual 79, 3) := by decide +kernel
theorem dX9_beside_150 : decode cX9_beside 150 = .ok (.aload_n 0, 1) := by decide +kernel
theorem dX9_beside_151 : decode cX9_beside 151 = .ok (.iload_n 1, 1) := by decide +kernel
theorem dX9_beside_152 : decode cX9_beside 152 = .ok (.iconst 4, 1) := by decide +kernel
theorem dX9_beside_153 : decode cX9_beside 153 = .ok (.iconst 1, 1) := by decide +kernel
theorem dX9_beside_154 : decode cX9_beside 154 = .ok (.iload 4, 2) := by decide +kernel
theorem dX9_beside_156 : decode cX9_beside 156 = .ok (.isub, 1) := by decide +kernel
theorem dX9_beside_157 : decode cX9_beside 157 = .ok (.invokevirtual 79, 3) := by decide +kernel
theorem dX9_beside_160 : decode cX9_beside 160 = .ok (.aload_n 0, 1) := by decide +kernel
theorem dX9_beside_161 : decode cX9_beside 161 = .ok (.iload_n 1, 1) := by decide +kernel
theorem dX9_beside_162 : decode cX9_beside 162 = .ok (.iconst 3, 1) := by decide +kernel
theorem dX9_beside_163 : decode cX9_beside 163 = .ok (.sipush 1000, 3) := by decide +kernel
theorem dX9_beside_166 : decode cX9_beside 166 = .ok (.invokevirtual 79, 3) := by decide +kernel
theorem dX9_beside_169 : decode cX9_beside 169 = .ok (.aload_n 0, 1) := by decide +kernel
theorem dX9_beside_170 : decode cX9_beside 170 = .ok (.iload 6, 2) := by decide +kernel
theorem dX9_beside_172 : decode cX9_beside 172 = .ok (.iconst 1, 1) := by decide +kernel
theorem dX9_beside_173 : decode cX9_beside 173 = .ok (.iload 7, 2) := by decide +kernel
theorem dX9_beside_175 : decode cX9_beside 175 = .ok (.invokevirtual 79, 3) := by decide +kernel
theorem dX9_beside_178 : decode cX9_beside 178 = .ok (.aload_n 0, 1) := by decide +kernel
theorem dX9_beside_179 : decode cX9_beside 179 = .ok (.iload 6, 2) := by decide +kernel
theorem dX9_beside_181 : decode cX9_beside 181 = .ok (.iconst 4, 1) := by decide +kernel
theorem dX9_beside_182 : decode cX9_beside 182 = .ok (.iload 4, 2) := by decide +kernel
theorem dX9_beside_184 : decode cX9_beside 184 = .ok (.invokevirtual 79, 3) := by decide +kernel
theorem dX9_beside_187 : decode cX9_beside 187 = .ok (.iload 6, 2) := by decide +kernel
theorem dX9_beside_189 : decode cX9_beside 189 = .ok (.ireturn, 1) := by decide +kernel
abbrev rmX9_beside : Room := { frames := 4, cells := 0, slots := 0, locals := 89 }
theorem hdX9_beside : yX9_beside.cls ≠ "java/lang/invoke/MethodHandle" ∧ yX9_beside.cls ≠ "java/lang/invoke/VarHandle" ∧ (parseMethodDescriptor yX9_beside.desc).map (fun d => d.parameters.length) = some 2 := by decide +kernel
def fX9_beside_120 (b : Nat) (σ : Sg) (l1 : Int32) (l3 : Int32) (l4 : Int32) (l6 : Int32) : Option (Int32 × Sg) :=
  (fX9_newNode σ b 1).bind fun r7 =>
  (fX9_lay r7.2 b r7.1 2 l3).bind fun σ8 =>
  (fX9_replaces σ8 b r7.1 l1).bind fun σ9 =>
  (fX9_lay σ9 b l1 1 r7.1).bind fun σ10 =>
  (fX9_lay σ10 b l1 4 (1 - l4)).bind fun σ11 =>
  (fX9_lay σ11 b l1 3 1000).bind fun σ12 =>
  (fX9_lay σ12 b l6 1 r7.1).bind fun σ13 =>
  (fX9_lay σ13 b l6 4 l4).bind fun σ14 =>
  some (l6, σ14)
theorem bX9_beside_120 {X : Xc} {K : Kc} (C : MC X K cX9_beside 9 RX9 rmX9_beside) (hr : K.meth.sig.returnType = (some .int)) (b : Nat) (hb : moOK b) (σ : Sg) (l1 : Int32) (l3 : Int32) (l4 : Int32) (l6 : Int32) : GO X K 9 (fun r => MQi X K r.1 r.2) (fX9_beside_120 b σ l1 l3 l4 l6) σ 0 0 120 [some (.ref (X.ad b)), some (.int (l1)), none, some (.int (l3)), some (.int (l4)), none, some (.int (l6)), none, none] [] := by
  unfold fX9_beside_120
  refine g_aload_n (pc := 120) (i := 0) C dX9_beside_120 rfl rfl ?_
  refine g_iconst (pc := 121) (v := 1) C dX9_beside_121 (by decide) ?_
  refine g_callVi (pc := 122) (As := [.int (1)]) C (kX9_newNode X σ b 1 hb) (blk hb 0 rfl) rfl q_35_2 q_35_3 q_35_4 q_1_5 q_35_5 ⟨rfl, hdX9_newNode⟩ ⟨Nat.le_of_ble_eq_true rfl, Nat.le_of_ble_eq_true rfl, rfl, rfl⟩ ⟨Nat.zero_le _, Nat.zero_le _⟩ (Nat.le_of_ble_eq_true rfl) rfl rfl dX9_beside_122 (fun r7 _ => ?_)
  refine g_istore (pc := 125) C dX9_beside_125 (Nat.le_of_ble_eq_true rfl) rfl ?_
  refine g_aload_n (pc := 127) (i := 0) C dX9_beside_127 rfl rfl ?_
  refine g_iload (pc := 128) C dX9_beside_128 rfl ?_
  refine g_iconst (pc := 130) (v := 2) C dX9_beside_130 (by decide) ?_
  refine g_iload_n (pc := 131) (i := 3) C dX9_beside_131 rfl rfl ?_
  refine g_callVv (pc := 132) (As := [.int (r7.1), .int (2), .int (l3)]) C (kX9_lay X r7.2 b r7.1 2 l3 hb) (blk hb 0 rfl) rfl q_21_0 q_21_1 q_21_2 q_1_5 q_21_3 ⟨rfl, hdX9_lay⟩ ⟨Nat.le_of_ble_eq_true rfl, Nat.le_of_ble_eq_true rfl, rfl, rfl⟩ ⟨Nat.zero_le _, Nat.zero_le _⟩ (Nat.le_of_ble_eq_true rfl) rfl rfl dX9_beside_132 (fun σ8 _ => ?_)
  refine g_aload_n (pc := 135) (i := 0) C dX9_beside_135 rfl rfl ?_
  refine g_iload (pc := 136) C dX9_beside_136 rfl ?_
  refine g_iload_n (pc := 138) (i := 1) C dX9_beside_138 rfl rfl ?_
  refine g_callVv (pc := 139) (As := [.int (r7.1), .int (l1)]) C (kX9_replaces X σ8 b r7.1 l1 hb) (blk hb 0 rfl) rfl q_22_0 q_22_1 q_22_2 q_1_5 q_22_3 ⟨rfl, hdX9_replaces⟩ ⟨Nat.le_of_ble_eq_true rfl, Nat.le_of_ble_eq_true rfl, rfl, rfl⟩ ⟨Nat.zero_le _, Nat.zero_le _⟩ (Nat.le_of_ble_eq_true rfl) rfl rfl dX9_beside_139 (fun σ9 _ => ?_)
  refine g_aload_n (pc := 142) (i := 0) C dX9_beside_142 rfl rfl ?_
  refine g_iload_n (pc := 143) (i := 1) C dX9_beside_143 rfl rfl ?_
  refine g_iconst (pc := 144) (v := 1) C dX9_beside_144 (by decide) ?_
  refine g_iload (pc := 145) C dX9_beside_145 rfl ?_
  refine g_callVv (pc := 147) (As := [.int (l1), .int (1), .int (r7.1)]) C (kX9_lay X σ9 b l1 1 r7.1 hb) (blk hb 0 rfl) rfl q_21_0 q_21_1 q_21_2 q_1_5 q_21_3 ⟨rfl, hdX9_lay⟩ ⟨Nat.le_of_ble_eq_true rfl, Nat.le_of_ble_eq_true rfl, rfl, rfl⟩ ⟨Nat.zero_le _, Nat.zero_le _⟩ (Nat.le_of_ble_eq_true rfl) rfl rfl dX9_beside_147 (fun σ10 _ => ?_)
  refine g_aload_n (pc := 150) (i := 0) C dX9_beside_150 rfl rfl ?_
  refine g_iload_n (pc := 151) (i := 1) C dX9_beside_151 rfl rfl ?_
  refine g_iconst (pc := 152) (v := 4) C dX9_beside_152 (by decide) ?_
  refine g_iconst (pc := 153) (v := 1) C dX9_beside_153 (by decide) ?_
  refine g_iload (pc := 154) C dX9_beside_154 rfl ?_
  refine g_isub (pc := 156) C dX9_beside_156 ?_
  refine g_callVv (pc := 157) (As := [.int (l1), .int (4), .int (1 - l4)]) C (kX9_lay X σ10 b l1 4 (1 - l4) hb) (blk hb 0 rfl) rfl q_21_0 q_21_1 q_21_2 q_1_5 q_21_3 ⟨rfl, hdX9_lay⟩ ⟨Nat.le_of_ble_eq_true rfl, Nat.le_of_ble_eq_true rfl, rfl, rfl⟩ ⟨Nat.zero_le _, Nat.zero_le _⟩ (Nat.le_of_ble_eq_true rfl) rfl rfl dX9_beside_157 (fun σ11 _ => ?_)
  refine g_aload_n (pc := 160) (i := 0) C dX9_beside_160 rfl rfl ?_
  refine g_iload_n (pc := 161) (i := 1) C dX9_beside_161 rfl rfl ?_
  refine g_iconst (pc := 162) (v := 3) C dX9_beside_162 (by decide) ?_
  refine g_sipush (pc := 163) (v := 1000) C dX9_beside_163 (by decide) ?_
  refine g_callVv (pc := 166) (As := [.int (l1), .int (3), .int (1000)]) C (kX9_lay X σ11 b l1 3 1000 hb) (blk hb 0 rfl) rfl q_21_0 q_21_1 q_21_2 q_1_5 q_21_3 ⟨rfl, hdX9_lay⟩ ⟨Nat.le_of_ble_eq_true rfl, Nat.le_of_ble_eq_true rfl, rfl, rfl⟩ ⟨Nat.zero_le _, Nat.zero_le _⟩ (Nat.le_of_ble_eq_true rfl) rfl rfl dX9_beside_166 (fun σ12 _ => ?_)
  refine g_aload_n (pc := 169) (i := 0) C dX9_beside_169 rfl rfl ?_
  refine g_iload (pc := 170) C dX9_beside_170 rfl ?_
  refine g_iconst (pc := 172) (v := 1) C dX9_beside_172 (by decide) ?_
  refine g_iload (pc := 173) C dX9_beside_173 rfl ?_
  refine g_callVv (pc := 175) (As := [.int (l6), .int (1), .int (r7.1)]) C (kX9_lay X σ12 b l6 1 r7.1 hb) (blk hb 0 rfl) rfl q_21_0 q_21_1 q_21_2 q_1_5 q_21_3 ⟨rfl, hdX9_lay⟩ ⟨Nat.le_of_ble_eq_true rfl, Nat.le_of_ble_eq_true rfl, rfl, rfl⟩ ⟨Nat.zero_le _, Nat.zero_le _⟩ (Nat.le_of_ble_eq_true rfl) rfl rfl dX9_beside_175 (fun σ13 _ => ?_)
  refine g_aload_n (pc := 178) (i := 0) C dX9_beside_178 rfl rfl ?_
  refine g_iload (pc := 179) C dX9_beside_179 rfl ?_
  refine g_iconst (pc := 181) (v := 4) C dX9_beside_181 (by decide) ?_
  refine g_iload (pc := 182) C dX9_beside_182 rfl ?_
  refine g_callVv (pc := 184) (As := [.int (l6), .int (4), .int (l4)]) C (kX9_lay X σ13 b l6 4 l4 hb) (blk hb 0 rfl) rfl q_21_0 q_21_1 q_21_2 q_1_5 q_21_3 ⟨rfl, hdX9_lay⟩ ⟨Nat.le_of_ble_eq_true rfl, Nat.le_of_ble_eq_true rfl, rfl, rfl⟩ ⟨Nat.zero_le _, Nat.zero_le _⟩ (Nat.le_of_ble_eq_true rfl) rfl rfl dX9_beside_184 (fun σ14 _ => ?_)
  refine g_iload (pc := 187) C dX9_beside_187 rfl ?_
  exact g_iret (pc := 189) C hr dX9_beside_189 rfl
def fX9_beside_114 (b : Nat) (σ : Sg) (l6 : Int32) (s1 : Int32) (s2 : Int32) (s3 : Int32) : Option (Int32 × Sg) :=
  (fX9_lay σ b s1 s2 s3).bind fun σ18 =>
  some (l6, σ18)
theorem bX9_beside_114 {X : Xc} {K : Kc} (C : MC X K cX9_beside 9 RX9 rmX9_beside) (hr : K.meth.sig.returnType = (some .int)) (b : Nat) (hb : moOK b) (σ : Sg) (l6 : Int32) (s1 : Int32) (s2 : Int32) (s3 : Int32) : GO X K 9 (fun r => MQi X K r.1 r.2) (fX9_beside_114 b σ l6 s1 s2 s3) σ 0 0 114 [none, none, none, none, none, none, some (.int (l6)), none, none] [.int (s3), .int (s2), .int (s1), .ref (X.ad b)] := by
  unfold fX9_beside_114
  refine g_callVv (pc := 114) (As := [.int (s1), .int (s2), .int (s3)]) C (kX9_lay X σ b s1 s2 s3 hb) (blk hb 0 rfl) rfl q_21_0 q_21_1 q_21_2 q_1_5 q_21_3 ⟨rfl, hdX9_lay⟩ ⟨Nat.le_of_ble_eq_true rfl, Nat.le_of_ble_eq_true rfl, rfl, rfl⟩ ⟨Nat.zero_le _, Nat.zero_le _⟩ (Nat.le_of_ble_eq_true rfl) rfl rfl dX9_beside_114 (fun σ18 _ => ?_)
  refine g_iload (pc := 117) C dX9_beside_117 rfl ?_
  exact g_iret (pc := 119) C hr dX9_beside_119 rfl
def fX9_beside_65 (b : Nat) (σ : Sg) (l1 : Int32) (l4 : Int32) (l5 : Int32) (l6 : Int32) (l7 : Int32) (s0 : Int32) : Option (Int32 × Sg) :=
  (fX9_its σ b l1 4).bind fun r15 =>
  (fX9_enters σ b l6 l5 (r15 + l4)).bind fun σ16 =>
  (fX9_lay σ16 b l6 3 s0).bind fun σ17 =>
  if (l7 - s0) ≤ 1 then
    (fX9_beside_114 b σ17 l6 l1 3 1)
  else
    (fX9_beside_114 b σ17 l6 l1 3 (l7 - s0))
theorem bX9_beside_65 {X : Xc} {K : Kc} (C : MC X K cX9_beside 9 RX9 rmX9_beside) (hr : K.meth.sig.returnType = (some .int)) (b : Nat) (hb : moOK b) (σ : Sg) (l1 : Int32) (l4 : Int32) (l5 : Int32) (l6 : Int32) (l7 : Int32) (s0 : Int32) : GO X K 9 (fun r => MQi X K r.1 r.2) (fX9_beside_65 b σ l1 l4 l5 l6 l7 s0) σ 0 0 65 [some (.ref (X.ad b)), some (.int (l1)), none, none, some (.int (l4)), some (.int (l5)), some (.int (l6)), some (.int (l7)), none] [.int (s0)] := by
  unfold fX9_beside_65
  refine g_istore (pc := 65) C dX9_beside_65 (Nat.le_of_ble_eq_true rfl) rfl ?_
  refine g_aload_n (pc := 67) (i := 0) C dX9_beside_67 rfl rfl ?_
  refine g_iload (pc := 68) C dX9_beside_68 rfl ?_
  refine g_iload (pc := 70) C dX9_beside_70 rfl ?_
  refine g_aload_n (pc := 72) (i := 0) C dX9_beside_72 rfl rfl ?_
  refine g_iload_n (pc := 73) (i := 1) C dX9_beside_73 rfl rfl ?_
  refine g_iconst (pc := 74) (v := 4) C dX9_beside_74 (by decide) ?_
  refine g_callVi (pc := 75) (As := [.int (l1), .int (4)]) C (kX9_its X σ b l1 4 hb) (blk hb 0 rfl) rfl q_20_12 q_20_13 q_20_14 q_1_5 q_20_15 ⟨rfl, hdX9_its⟩ ⟨Nat.le_of_ble_eq_true rfl, Nat.le_of_ble_eq_true rfl, rfl, rfl⟩ ⟨Nat.zero_le _, Nat.zero_le _⟩ (Nat.le_of_ble_eq_true rfl) rfl rfl dX9_beside_75 (fun r15 _ => ?_)
  refine g_iload (pc := 78) C dX9_beside_78 rfl ?_
  refine g_iadd (pc := 80) C dX9_beside_80 ?_
  refine g_callVv (pc := 81) (As := [.int (l6), .int (l5), .int (r15 + l4)]) C (kX9_enters X σ b l6 l5 (r15 + l4) hb) (blk hb 0 rfl) rfl q_35_6 q_35_7 q_35_8 q_1_5 q_35_9 ⟨rfl, hdX9_enters⟩ ⟨Nat.le_of_ble_eq_true rfl, Nat.le_of_ble_eq_true rfl, rfl, rfl⟩ ⟨Nat.zero_le _, Nat.zero_le _⟩ (Nat.le_of_ble_eq_true rfl) rfl rfl dX9_beside_81 (fun σ16 _ => ?_)
  refine g_aload_n (pc := 84) (i := 0) C dX9_beside_84 rfl rfl ?_
  refine g_iload (pc := 85) C dX9_beside_85 rfl ?_
  refine g_iconst (pc := 87) (v := 3) C dX9_beside_87 (by decide) ?_
  refine g_iload (pc := 88) C dX9_beside_88 rfl ?_
  refine g_callVv (pc := 90) (As := [.int (l6), .int (3), .int (s0)]) C (kX9_lay X σ16 b l6 3 s0 hb) (blk hb 0 rfl) rfl q_21_0 q_21_1 q_21_2 q_1_5 q_21_3 ⟨rfl, hdX9_lay⟩ ⟨Nat.le_of_ble_eq_true rfl, Nat.le_of_ble_eq_true rfl, rfl, rfl⟩ ⟨Nat.zero_le _, Nat.zero_le _⟩ (Nat.le_of_ble_eq_true rfl) rfl rfl dX9_beside_90 (fun σ17 _ => ?_)
  refine g_aload_n (pc := 93) (i := 0) C dX9_beside_93 rfl rfl ?_
  refine g_iload_n (pc := 94) (i := 1) C dX9_beside_94 rfl rfl ?_
  refine g_iconst (pc := 95) (v := 3) C dX9_beside_95 (by decide) ?_
  refine g_iload (pc := 96) C dX9_beside_96 rfl ?_
  refine g_iload (pc := 98) C dX9_beside_98 rfl ?_
  refine g_isub (pc := 100) C dX9_beside_100 ?_
  refine g_iconst (pc := 101) (v := 1) C dX9_beside_101 (by decide) ?_
  refine g_icmp_le (pc := 102) (tgt := 113) C dX9_beside_102 rfl ?_ ?_
  · refine g_iconst (pc := 113) (v := 1) C dX9_beside_113 (by decide) ?_
    refine g_keep [false, false, false, false, false, false, true, false, false] ?_
    exact bX9_beside_114 C hr b hb σ17 l6 l1 3 1
  · refine g_iload (pc := 105) C dX9_beside_105 rfl ?_
    refine g_iload (pc := 107) C dX9_beside_107 rfl ?_
    refine g_isub (pc := 109) C dX9_beside_109 ?_
    refine g_goto (pc := 110) (tgt := 114) C dX9_beside_110 rfl ?_
    refine g_keep [false, false, false, false, false, false, true, false, false] ?_
    exact bX9_beside_114 C hr b hb σ17 l6 l1 3 (l7 - s0)
def fX9_beside (σ : Sg) (b : Nat) (p1 : Int32) (p2 : Int32) : Option (Int32 × Sg) :=
  nm (p2 / 2) fun v1 =>
  nm (p2 - p2 / 2 * 2) fun v2 =>
  (fX9_its σ b p1 1).bind fun r3 =>
  (fX9_newNode σ b 2).bind fun r4 =>
  if r3 = (-1) then
    (fX9_beside_120 b r4.2 p1 v1 v2 r4.1)
  else
    (fX9_its r4.2 b r3 2).bind fun r5 =>
    if r5 = v1 then
      (fX9_its r4.2 b p1 3).bind fun r6 =>
      if (r6 / 2) ≤ 1 then
        (fX9_beside_65 b r4.2 p1 v2 r3 r4.1 r6 1)
      else
        (fX9_beside_65 b r4.2 p1 v2 r3 r4.1 r6 (r6 / 2))
    else
      (fX9_beside_120 b r4.2 p1 v1 v2 r4.1)
theorem kX9_beside (X : Xc) (σ : Sg) (b : Nat) (p1 : Int32) (p2 : Int32) (hb : moOK b) : ∀ r, fX9_beside σ b p1 p2 = some r → Met X.l yX9_beside (wsM yX9_beside cX9_beside 9 (some .int)) rmX9_beside (va_Pc [.ref (X.ad b), .int p1, .int p2] (PW X σ)) (Qi X r.1 r.2) 0 0 X.A := by
  refine mt_of (own := RX9) (lo := [some (.ref (X.ad b)), some (.int (p1)), some (.int (p2)), none, none, none, none, none, none]) (by decide) rfl (Nat.le_of_ble_eq_true rfl) rfl (fun K C hr => ?_)
  unfold fX9_beside
  refine g_iload_n (pc := 0) (i := 2) C dX9_beside_0 rfl rfl ?_
  refine g_iconst (pc := 1) (v := 2) C dX9_beside_1 (by decide) ?_
  refine g_idivc (pc := 2) C dX9_beside_2 (by decide) ?_
  refine g_nm (fun v1 => ?_)
  refine g_istore_n (pc := 3) (i := 3) C dX9_beside_3 rfl (Nat.le_of_ble_eq_true rfl) rfl ?_
  refine g_iload_n (pc := 4) (i := 2) C dX9_beside_4 rfl rfl ?_
  refine g_iconst (pc := 5) (v := 2) C dX9_beside_5 (by decide) ?_
  refine g_iremc (pc := 6) C dX9_beside_6 (by decide) ?_
  refine g_nm (fun v2 => ?_)
  refine g_istore (pc := 7) C dX9_beside_7 (Nat.le_of_ble_eq_true rfl) rfl ?_
  refine g_aload_n (pc := 9) (i := 0) C dX9_beside_9 rfl rfl ?_
  refine g_iload_n (pc := 10) (i := 1) C dX9_beside_10 rfl rfl ?_
  refine g_iconst (pc := 11) (v := 1) C dX9_beside_11 (by decide) ?_
  refine g_callVi (pc := 12) (As := [.int (p1), .int (1)]) C (kX9_its X σ b p1 1 hb) (blk hb 0 rfl) rfl q_20_12 q_20_13 q_20_14 q_1_5 q_20_15 ⟨rfl, hdX9_its⟩ ⟨Nat.le_of_ble_eq_true rfl, Nat.le_of_ble_eq_true rfl, rfl, rfl⟩ ⟨Nat.zero_le _, Nat.zero_le _⟩ (Nat.le_of_ble_eq_true rfl) rfl rfl dX9_beside_12 (fun r3 _ => ?_)
  refine g_istore (pc := 15) C dX9_beside_15 (Nat.le_of_ble_eq_true rfl) rfl ?_
  refine g_aload_n (pc := 17) (i := 0) C dX9_beside_17 rfl rfl ?_
  refine g_iconst (pc := 18) (v := 2) C dX9_beside_18 (by decide) ?_
  refine g_callVi (pc := 19) (As := [.int (2)]) C (kX9_newNode X σ b 2 hb) (blk hb 0 rfl) rfl q_35_2 q_35_3 q_35_4 q_1_5 q_35_5 ⟨rfl, hdX9_newNode⟩ ⟨Nat.le_of_ble_eq_true rfl, Nat.le_of_ble_eq_true rfl, rfl, rfl⟩ ⟨Nat.zero_le _, Nat.zero_le _⟩ (Nat.le_of_ble_eq_true rfl) rfl rfl dX9_beside_19 (fun r4 _ => ?_)
  refine g_istore (pc := 22) C dX9_beside_22 (Nat.le_of_ble_eq_true rfl) rfl ?_
  refine g_iload (pc := 24) C dX9_beside_24 rfl ?_
  refine g_iconst (pc := 26) (v := (-1)) C dX9_beside_26 (by decide) ?_
  refine g_icmp_eq (pc := 27) (tgt := 120) C dX9_beside_27 rfl ?_ ?_
  · refine g_keep [true, true, false, true, true, false, true, false, false] ?_
    exact bX9_beside_120 C hr b hb r4.2 p1 v1 v2 r4.1
  · refine g_aload_n (pc := 30) (i := 0) C dX9_beside_30 rfl rfl ?_
    refine g_iload (pc := 31) C dX9_beside_31 rfl ?_
    refine g_iconst (pc := 33) (v := 2) C dX9_beside_33 (by decide) ?_
    refine g_callVi (pc := 34) (As := [.int (r3), .int (2)]) C (kX9_its X r4.2 b r3 2 hb) (blk hb 0 rfl) rfl q_20_12 q_20_13 q_20_14 q_1_5 q_20_15 ⟨rfl, hdX9_its⟩ ⟨Nat.le_of_ble_eq_true rfl, Nat.le_of_ble_eq_true rfl, rfl, rfl⟩ ⟨Nat.zero_le _, Nat.zero_le _⟩ (Nat.le_of_ble_eq_true rfl) rfl rfl dX9_beside_34 (fun r5 _ => ?_)
    refine g_iload_n (pc := 37) (i := 3) C dX9_beside_37 rfl rfl ?_
    refine g_icmp_ne (pc := 38) (tgt := 120) C dX9_beside_38 rfl ?_ ?_
    · refine g_aload_n (pc := 41) (i := 0) C dX9_beside_41 rfl rfl ?_
      refine g_iload_n (pc := 42) (i := 1) C dX9_beside_42 rfl rfl ?_
      refine g_iconst (pc := 43) (v := 3) C dX9_beside_43 (by decide) ?_
      refine g_callVi (pc := 44) (As := [.int (p1), .int (3)]) C (kX9_its X r4.2 b p1 3 hb) (blk hb 0 rfl) rfl q_20_12 q_20_13 q_20_14 q_1_5 q_20_15 ⟨rfl, hdX9_its⟩ ⟨Nat.le_of_ble_eq_true rfl, Nat.le_of_ble_eq_true rfl, rfl, rfl⟩ ⟨Nat.zero_le _, Nat.zero_le _⟩ (Nat.le_of_ble_eq_true rfl) rfl rfl dX9_beside_44 (fun r6 _ => ?_)
      refine g_istore (pc := 47) C dX9_beside_47 (Nat.le_of_ble_eq_true rfl) rfl ?_
      refine g_iload (pc := 49) C dX9_beside_49 rfl ?_
      refine g_iconst (pc := 51) (v := 2) C dX9_beside_51 (by decide) ?_
      refine g_idivc (pc := 52) C dX9_beside_52 (by decide) ?_
      refine g_iconst (pc := 53) (v := 1) C dX9_beside_53 (by decide) ?_
      refine g_icmp_le (pc := 54) (tgt := 64) C dX9_beside_54 rfl ?_ ?_
      · refine g_iconst (pc := 64) (v := 1) C dX9_beside_64 (by decide) ?_
        refine g_keep [true, true, false, false, true, true, true, true, false] ?_
        exact bX9_beside_65 C hr b hb r4.2 p1 v2 r3 r4.1 r6 1
      · refine g_iload (pc := 57) C dX9_beside_57 rfl ?_
        refine g_iconst (pc := 59) (v := 2) C dX9_beside_59 (by decide) ?_
        refine g_idivc (pc := 60) C dX9_beside_60 (by decide) ?_
        refine g_goto (pc := 61) (tgt := 65) C dX9_beside_61 rfl ?_
        refine g_keep [true, true, false, false, true, true, true, true, false] ?_
        exact bX9_beside_65 C hr b hb r4.2 p1 v2 r3 r4.1 r6 (r6 / 2)
    · refine g_keep [true, true, false, true, true, false, true, false, false] ?_
      exact bX9_beside_120 C hr b hb r4.2 p1 v1 v2 r4.1
theorem dX9_dock_0 : decode cX9_dock 0 = .ok (.aload_n 0, 1) := by decide +kernel
theorem dX9_dock_1 : decode cX9_dock 1 = .ok (.iload_n 1, 1) := by decide +kernel
theorem dX9_dock_2 : decode cX9_dock 2 = .ok (.invokevirtual 144, 3) := by decide +kernel
theorem dX9_dock_5 : decode cX9_dock 5 = .ok (.ifCond .eq 15, 3) := by decide +kernel
theorem dX9_dock_8 : decode cX9_dock 8 = .ok (.aload_n 0, 1) := by decide +kernel
theorem dX9_dock_9 : decode cX9_dock 9 = .ok (.iload_n 2, 1) := by decide +kernel
theorem dX9_dock_10 : decode cX9_dock 10 = .ok (.invokevirtual 144, 3) := by decide +kernel
theorem dX9_dock_13 : decode cX9_dock 13 = .ok (.ifCond .eq 7, 3) := by decide +kernel
theorem dX9_dock_16 : decode cX9_dock 16 = .ok (.iconst 1, 1) := by decide +kernel
theorem dX9_dock_17 : decode cX9_dock 17 = .ok (.goto 4, 3) := by decide +kernel
theorem dX9_dock_20 : decode cX9_dock 20 = .ok (.iconst 0, 1) := by decide +kernel
theorem dX9_dock_21 : decode cX9_dock 21 = .ok (.istore 4, 2) := by decide +kernel
theorem dX9_dock_23 : decode cX9_dock 23 = .ok (.iload 4, 2) := by decide +kernel
theorem dX9_dock_25 : decode cX9_dock 25 = .ok (.ifCond .eq 21, 3) := by decide +kernel
theorem dX9_dock_28 : decode cX9_dock 28 = .ok (.iload_n 1, 1) := by decide +kernel
theorem dX9_dock_29 : decode cX9_dock 29 = .ok (.iload_n 2, 1) := by decide +kernel
theorem dX9_dock_30 : decode cX9_dock 30 = .ok (.if_icmp .eq 16, 3) := by decide +kernel
theorem dX9_dock_33 : decode cX9_dock 33 = .ok (.iload_n 3, 1) := by decide +kernel
theorem dX9_dock_34 : decode cX9_dock 34 = .ok (.iconst 0, 1) := by decide +kernel
theorem dX9_dock_35 : decode cX9_dock 35 = .ok (.iconst 4, 1) := by decide +kernel
theorem dX9_dock_36 : decode cX9_dock 36 = .ok (.invokestatic 61, 3) := by decide +kernel
theorem dX9_dock_39 : decode cX9_dock 39 = .ok (.ifCond .eq 7, 3) := by decide +kernel
theorem dX9_dock_42 : decode cX9_dock 42 = .ok (.iconst 1, 1) := by decide +kernel
theorem dX9_dock_43 : decode cX9_dock 43 = .ok (.goto 4, 3) := by decide +kernel
theorem dX9_dock_46 : decode cX9_dock 46 = .ok (.iconst 0, 1) := by decide +kernel
theorem dX9_dock_47 : decode cX9_dock 47 = .ok (.istore 5, 2) := by decide +kernel
theorem dX9_dock_49 : decode cX9_dock 49 = .ok (.aload_n 0, 1) := by decide +kernel
theorem dX9_dock_50 : decode cX9_dock 50 = .ok (.iload 4, 2) := by decide +kernel
theorem dX9_dock_52 : decode cX9_dock 52 = .ok (.ifCond .ne 7, 3) := by decide +kernel
theorem dX9_dock_55 : decode cX9_dock 55 = .ok (.iconst 1, 1) := by decide +kernel
theorem dX9_dock_56 : decode cX9_dock 56 = .ok (.goto 25, 3) := by decide +kernel
theorem dX9_dock_59 : decode cX9_dock 59 = .ok (.iload 5, 2) := by decide +kernel
theorem dX9_dock_61 : decode cX9_dock 61 = .ok (.ifCond .ne 7, 3) := by decide +kernel
theorem dX9_dock_64 : decode cX9_dock 64 = .ok (.iconst 2, 1) := by decide +kernel
theorem dX9_dock_65 : decode cX9_dock 65 = .ok (.goto 16, 3) := by decide +kernel
theorem dX9_dock_68 : decode cX9_dock 68 = .ok (.aload_n 0, 1) := by decide +kernel
theorem dX9_dock_69 : decode cX9_dock 69 = .ok (.iload_n 2, 1) := by decide +kernel
theorem dX9_dock_70 : decode cX9_dock 70 = .ok (.invokevirtual 69, 3) := by decide +kernel
theorem dX9_dock_73 : decode cX9_dock 73 = .ok (.ifCond .ne 7, 3) := by decide +kernel
theorem dX9_dock_76 : decode cX9_dock 76 = .ok (.iconst 3, 1) := by decide +kernel
theorem dX9_dock_77 : decode cX9_dock 77 = .ok (.goto 4, 3) := by decide +kernel
theorem dX9_dock_80 : decode cX9_dock 80 = .ok (.iconst 0, 1) := by decide +kernel
theorem dX9_dock_81 : decode cX9_dock 81 = .ok (.invokevirtual 57, 3) := by decide +kernel
theorem dX9_dock_84 : decode cX9_dock 84 = .ok (.ifCond .eq 5, 3) := by decide +kernel
theorem dX9_dock_87 : decode cX9_dock 87 = .ok (.iconst 0, 1) := by decide +kernel
theorem dX9_dock_88 : decode cX9_dock 88 = .ok (.ireturn, 1) := by decide +kernel
theorem dX9_dock_89 : decode cX9_dock 89 = .ok (.aload_n 0, 1) := by decide +kernel
theorem dX9_dock_90 : decode cX9_dock 90 = .ok (.invokevirtual 141, 3) := by decide +kernel
theorem dX9_dock_93 : decode cX9_dock 93 = .ok (.aload_n 0, 1) := by decide +kernel
theorem dX9_dock_94 : decode cX9_dock 94 = .ok (.iload_n 1, 1) := by decide +kernel
theorem dX9_dock_95 : decode cX9_dock 95 = .ok (.invokevirtual 147, 3) := by decide +kernel
theorem dX9_dock_98 : decode cX9_dock 98 = .ok (.aload_n 0, 1) := by decide +kernel
theorem dX9_dock_99 : decode cX9_dock 99 = .ok (.iload_n 2, 1) := by decide +kernel
theorem dX9_dock_100 : decode cX9_dock 100 = .ok (.iconst 3, 1) := by decide +kernel
theorem dX9_dock_101 : decode cX9_dock 101 = .ok (.invokevirtual 65, 3) := by decide +kernel
theorem dX9_dock_104 : decode cX9_dock 104 = .ok (.istore 6, 2) := by decide +kernel
theorem dX9_dock_106 : decode cX9_dock 106 = .ok (.aload_n 0, 1) := by decide +kernel
theorem dX9_dock_107 : decode cX9_dock 107 = .ok (.iload_n 1, 1) := by decide +kernel
theorem dX9_dock_108 : decode cX9_dock 108 = .ok (.iload_n 3, 1) := by decide +kernel
theorem dX9_dock_109 : decode cX9_dock 109 = .ok (.iconst 4, 1) := by decide +kernel
theorem dX9_dock_110 : decode cX9_dock 110 = .ok (.if_icmp .ne 8, 3) := by decide +kernel
theorem dX9_dock_113 : decode cX9_dock 113 = .ok (.iload 6, 2) := by decide +kernel
theorem dX9_dock_115 : decode cX9_dock 115 = .ok (.goto 10, 3) := by decide +kernel
theorem dX9_dock_118 : decode cX9_dock 118 = .ok (.aload_n 0, 1) := by decide +kernel
theorem dX9_dock_119 : decode cX9_dock 119 = .ok (.iload 6, 2) := by decide +kernel
theorem dX9_dock_121 : decode cX9_dock 121 = .ok (.iload_n 3, 1) := by decide +kernel
theorem dX9_dock_122 : decode cX9_dock 122 = .ok (.invokevirtual 205, 3) := by decide +kernel
theorem dX9_dock_125 : decode cX9_dock 125 = .ok (.invokevirtual 208, 3) := by decide +kernel
theorem dX9_dock_128 : decode cX9_dock 128 = .ok (.aload_n 0, 1) := by decide +kernel
theorem dX9_dock_129 : decode cX9_dock 129 = .ok (.iload 6, 2) := by decide +kernel
theorem dX9_dock_131 : decode cX9_dock 131 = .ok (.invokevirtual 91, 3) := by decide +kernel
theorem dX9_dock_134 : decode cX9_dock 134 = .ok (.ireturn, 1) := by decide +kernel
abbrev rmX9_dock : Room := { frames := 7, cells := 0, slots := 0, locals := 156 }
theorem hdX9_dock : yX9_dock.cls ≠ "java/lang/invoke/MethodHandle" ∧ yX9_dock.cls ≠ "java/lang/invoke/VarHandle" ∧ (parseMethodDescriptor yX9_dock.desc).map (fun d => d.parameters.length) = some 3 := by decide +kernel
def fX9_dock_125 (b : Nat) (σ : Sg) (l6 : Int32) (s1 : Int32) (s2 : Int32) : Option (Int32 × Sg) :=
  (fX9_settles σ b s1 s2).bind fun σ10 =>
  (fX9_windowOf σ10 b l6).bind fun r11 =>
  some (r11, σ10)
theorem bX9_dock_125 {X : Xc} {K : Kc} (C : MC X K cX9_dock 7 RX9 rmX9_dock) (hr : K.meth.sig.returnType = (some .int)) (b : Nat) (hb : moOK b) (σ : Sg) (l6 : Int32) (s1 : Int32) (s2 : Int32) : GO X K 7 (fun r => MQi X K r.1 r.2) (fX9_dock_125 b σ l6 s1 s2) σ 0 0 125 [some (.ref (X.ad b)), none, none, none, none, none, some (.int (l6))] [.int (s2), .int (s1), .ref (X.ad b)] := by
  unfold fX9_dock_125
  refine g_callVv (pc := 125) (As := [.int (s1), .int (s2)]) C (kX9_settles X σ b s1 s2 hb) (blk hb 0 rfl) rfl q_35_10 q_35_11 q_35_12 q_1_5 q_35_13 ⟨rfl, hdX9_settles⟩ ⟨Nat.le_of_ble_eq_true rfl, Nat.le_of_ble_eq_true rfl, rfl, rfl⟩ ⟨Nat.zero_le _, Nat.zero_le _⟩ (Nat.le_of_ble_eq_true rfl) rfl rfl dX9_dock_125 (fun σ10 _ => ?_)
  refine g_aload_n (pc := 128) (i := 0) C dX9_dock_128 rfl rfl ?_
  refine g_iload (pc := 129) C dX9_dock_129 rfl ?_
  refine g_callVi (pc := 131) (As := [.int (l6)]) C (kX9_windowOf X σ10 b l6 hb) (blk hb 0 rfl) rfl q_22_4 q_22_5 q_22_6 q_1_5 q_22_7 ⟨rfl, hdX9_windowOf⟩ ⟨Nat.le_of_ble_eq_true rfl, Nat.le_of_ble_eq_true rfl, rfl, rfl⟩ ⟨Nat.zero_le _, Nat.zero_le _⟩ (Nat.le_of_ble_eq_true rfl) rfl rfl dX9_dock_131 (fun r11 _ => ?_)
  exact g_iret (pc := 134) C hr dX9_dock_134 rfl
def fX9_dock_81 (b : Nat) (σ : Sg) (l1 : Int32) (l2 : Int32) (l3 : Int32) (s1 : Int32) : Option (Int32 × Sg) :=
  (fX9_refused σ b s1).bind fun r5 =>
  if r5.1 = true then
    some (0, r5.2)
  else
    (fX9_saves r5.2 b).bind fun σ6 =>
    (fX9_takes σ6 b l1).bind fun σ7 =>
    (fX9_of σ7 b l2 3).bind fun r8 =>
    if l3 = 4 then
      (fX9_dock_125 b σ7 r8 l1 r8)
    else
      (fX9_beside σ7 b r8 l3).bind fun r9 =>
      (fX9_dock_125 b r9.2 r8 l1 r9.1)
theorem bX9_dock_81 {X : Xc} {K : Kc} (C : MC X K cX9_dock 7 RX9 rmX9_dock) (hr : K.meth.sig.returnType = (some .int)) (b : Nat) (hb : moOK b) (σ : Sg) (l1 : Int32) (l2 : Int32) (l3 : Int32) (s1 : Int32) : GO X K 7 (fun r => MQi X K r.1 r.2) (fX9_dock_81 b σ l1 l2 l3 s1) σ 0 0 81 [some (.ref (X.ad b)), some (.int (l1)), some (.int (l2)), some (.int (l3)), none, none, none] [.int (s1), .ref (X.ad b)] := by
  unfold fX9_dock_81
  refine g_callVi (pc := 81) (As := [.int (s1)]) C (kX9_refused X σ b s1 hb) (blk hb 0 rfl) rfl q_10_9 q_10_10 q_10_11 q_1_5 q_10_12 ⟨rfl, hdX9_refused⟩ ⟨Nat.le_of_ble_eq_true rfl, Nat.le_of_ble_eq_true rfl, rfl, rfl⟩ ⟨Nat.zero_le _, Nat.zero_le _⟩ (Nat.le_of_ble_eq_true rfl) rfl rfl dX9_dock_81 (fun r5 _ => ?_)
  refine g_ifb_eq (pc := 84) (tgt := 89) C dX9_dock_84 rfl ?_ ?_
  · refine g_iconst (pc := 87) (v := 0) C dX9_dock_87 (by decide) ?_
    exact g_iret (pc := 88) C hr dX9_dock_88 rfl
  · refine g_aload_n (pc := 89) (i := 0) C dX9_dock_89 rfl rfl ?_
    refine g_callVv (pc := 90) (As := []) C (kX9_saves X r5.2 b hb) (blk hb 0 rfl) rfl q_10_14 q_10_15 q_10_16 q_1_5 q_10_17 ⟨rfl, hdX9_saves⟩ ⟨Nat.le_of_ble_eq_true rfl, Nat.le_of_ble_eq_true rfl, rfl, rfl⟩ ⟨Nat.zero_le _, Nat.zero_le _⟩ (Nat.le_of_ble_eq_true rfl) rfl rfl dX9_dock_90 (fun σ6 _ => ?_)
    refine g_aload_n (pc := 93) (i := 0) C dX9_dock_93 rfl rfl ?_
    refine g_iload_n (pc := 94) (i := 1) C dX9_dock_94 rfl rfl ?_
    refine g_callVv (pc := 95) (As := [.int (l1)]) C (kX9_takes X σ6 b l1 hb) (blk hb 0 rfl) rfl q_19_20 q_19_21 q_19_22 q_1_5 q_19_23 ⟨rfl, hdX9_takes⟩ ⟨Nat.le_of_ble_eq_true rfl, Nat.le_of_ble_eq_true rfl, rfl, rfl⟩ ⟨Nat.zero_le _, Nat.zero_le _⟩ (Nat.le_of_ble_eq_true rfl) rfl rfl dX9_dock_95 (fun σ7 _ => ?_)
    refine g_aload_n (pc := 98) (i := 0) C dX9_dock_98 rfl rfl ?_
    refine g_iload_n (pc := 99) (i := 2) C dX9_dock_99 rfl rfl ?_
    refine g_iconst (pc := 100) (v := 3) C dX9_dock_100 (by decide) ?_
    refine g_callVi (pc := 101) (As := [.int (l2), .int (3)]) C (kX9_of X σ7 b l2 3 hb) (blk hb 0 rfl) rfl q_10_2 q_10_3 q_10_4 q_1_5 q_10_5 ⟨rfl, hdX9_of⟩ ⟨Nat.le_of_ble_eq_true rfl, Nat.le_of_ble_eq_true rfl, rfl, rfl⟩ ⟨Nat.zero_le _, Nat.zero_le _⟩ (Nat.le_of_ble_eq_true rfl) rfl rfl dX9_dock_101 (fun r8 _ => ?_)
    refine g_istore (pc := 104) C dX9_dock_104 (Nat.le_of_ble_eq_true rfl) rfl ?_
    refine g_aload_n (pc := 106) (i := 0) C dX9_dock_106 rfl rfl ?_
    refine g_iload_n (pc := 107) (i := 1) C dX9_dock_107 rfl rfl ?_
    refine g_iload_n (pc := 108) (i := 3) C dX9_dock_108 rfl rfl ?_
    refine g_iconst (pc := 109) (v := 4) C dX9_dock_109 (by decide) ?_
    refine g_icmp_ne (pc := 110) (tgt := 118) C dX9_dock_110 rfl ?_ ?_
    · refine g_iload (pc := 113) C dX9_dock_113 rfl ?_
      refine g_goto (pc := 115) (tgt := 125) C dX9_dock_115 rfl ?_
      refine g_keep [true, false, false, false, false, false, true] ?_
      exact bX9_dock_125 C hr b hb σ7 r8 l1 r8
    · refine g_aload_n (pc := 118) (i := 0) C dX9_dock_118 rfl rfl ?_
      refine g_iload (pc := 119) C dX9_dock_119 rfl ?_
      refine g_iload_n (pc := 121) (i := 3) C dX9_dock_121 rfl rfl ?_
      refine g_callVi (pc := 122) (As := [.int (r8), .int (l3)]) C (kX9_beside X σ7 b r8 l3 hb) (blk hb 0 rfl) rfl q_34_22 q_34_23 q_35_0 q_1_5 q_35_1 ⟨rfl, hdX9_beside⟩ ⟨Nat.le_of_ble_eq_true rfl, Nat.le_of_ble_eq_true rfl, rfl, rfl⟩ ⟨Nat.zero_le _, Nat.zero_le _⟩ (Nat.le_of_ble_eq_true rfl) rfl rfl dX9_dock_122 (fun r9 _ => ?_)
      refine g_keep [true, false, false, false, false, false, true] ?_
      exact bX9_dock_125 C hr b hb r9.2 r8 l1 r9.1
def fX9_dock_47 (b : Nat) (σ : Sg) (l1 : Int32) (l2 : Int32) (l3 : Int32) (l4 : Int32) (s0 : Int32) : Option (Int32 × Sg) :=
  if l4 = 0 then
    (fX9_dock_81 b σ l1 l2 l3 1)
  else
    if s0 = 0 then
      (fX9_dock_81 b σ l1 l2 l3 2)
    else
      (fX9_isPlaced σ b l2).bind fun r4 =>
      if r4 = true then
        (fX9_dock_81 b σ l1 l2 l3 0)
      else
        (fX9_dock_81 b σ l1 l2 l3 3)
theorem bX9_dock_47 {X : Xc} {K : Kc} (C : MC X K cX9_dock 7 RX9 rmX9_dock) (hr : K.meth.sig.returnType = (some .int)) (b : Nat) (hb : moOK b) (σ : Sg) (l1 : Int32) (l2 : Int32) (l3 : Int32) (l4 : Int32) (s0 : Int32) : GO X K 7 (fun r => MQi X K r.1 r.2) (fX9_dock_47 b σ l1 l2 l3 l4 s0) σ 0 0 47 [some (.ref (X.ad b)), some (.int (l1)), some (.int (l2)), some (.int (l3)), some (.int (l4)), none, none] [.int (s0)] := by
  unfold fX9_dock_47
  refine g_istore (pc := 47) C dX9_dock_47 (Nat.le_of_ble_eq_true rfl) rfl ?_
  refine g_aload_n (pc := 49) (i := 0) C dX9_dock_49 rfl rfl ?_
  refine g_iload (pc := 50) C dX9_dock_50 rfl ?_
  refine g_if_ne (pc := 52) (tgt := 59) C dX9_dock_52 rfl ?_ ?_
  · refine g_iconst (pc := 55) (v := 1) C dX9_dock_55 (by decide) ?_
    refine g_goto (pc := 56) (tgt := 81) C dX9_dock_56 rfl ?_
    refine g_keep [true, true, true, true, false, false, false] ?_
    exact bX9_dock_81 C hr b hb σ l1 l2 l3 1
  · refine g_iload (pc := 59) C dX9_dock_59 rfl ?_
    refine g_if_ne (pc := 61) (tgt := 68) C dX9_dock_61 rfl ?_ ?_
    · refine g_iconst (pc := 64) (v := 2) C dX9_dock_64 (by decide) ?_
      refine g_goto (pc := 65) (tgt := 81) C dX9_dock_65 rfl ?_
      refine g_keep [true, true, true, true, false, false, false] ?_
      exact bX9_dock_81 C hr b hb σ l1 l2 l3 2
    · refine g_aload_n (pc := 68) (i := 0) C dX9_dock_68 rfl rfl ?_
      refine g_iload_n (pc := 69) (i := 2) C dX9_dock_69 rfl rfl ?_
      refine g_callVi (pc := 70) (As := [.int (l2)]) C (kX9_isPlaced X σ b l2 hb) (blk hb 0 rfl) rfl q_20_0 q_20_1 q_20_2 q_1_5 q_20_3 ⟨rfl, hdX9_isPlaced⟩ ⟨Nat.le_of_ble_eq_true rfl, Nat.le_of_ble_eq_true rfl, rfl, rfl⟩ ⟨Nat.zero_le _, Nat.zero_le _⟩ (Nat.le_of_ble_eq_true rfl) rfl rfl dX9_dock_70 (fun r4 _ => ?_)
      refine g_ifb_ne (pc := 73) (tgt := 80) C dX9_dock_73 rfl ?_ ?_
      · refine g_iconst (pc := 80) (v := 0) C dX9_dock_80 (by decide) ?_
        refine g_keep [true, true, true, true, false, false, false] ?_
        exact bX9_dock_81 C hr b hb σ l1 l2 l3 0
      · refine g_iconst (pc := 76) (v := 3) C dX9_dock_76 (by decide) ?_
        refine g_goto (pc := 77) (tgt := 81) C dX9_dock_77 rfl ?_
        refine g_keep [true, true, true, true, false, false, false] ?_
        exact bX9_dock_81 C hr b hb σ l1 l2 l3 3
def fX9_dock_46 (b : Nat) (σ : Sg) (l1 : Int32) (l2 : Int32) (l3 : Int32) (l4 : Int32) : Option (Int32 × Sg) :=
  (fX9_dock_47 b σ l1 l2 l3 l4 0)
theorem bX9_dock_46 {X : Xc} {K : Kc} (C : MC X K cX9_dock 7 RX9 rmX9_dock) (hr : K.meth.sig.returnType = (some .int)) (b : Nat) (hb : moOK b) (σ : Sg) (l1 : Int32) (l2 : Int32) (l3 : Int32) (l4 : Int32) : GO X K 7 (fun r => MQi X K r.1 r.2) (fX9_dock_46 b σ l1 l2 l3 l4) σ 0 0 46 [some (.ref (X.ad b)), some (.int (l1)), some (.int (l2)), some (.int (l3)), some (.int (l4)), none, none] [] := by
  unfold fX9_dock_46
  refine g_iconst (pc := 46) (v := 0) C dX9_dock_46 (by decide) ?_
  refine g_keep [true, true, true, true, true, false, false] ?_
  exact bX9_dock_47 C hr b hb σ l1 l2 l3 l4 0
def fX9_dock_21 (b : Nat) (σ : Sg) (l1 : Int32) (l2 : Int32) (l3 : Int32) (s0 : Int32) : Option (Int32 × Sg) :=
  if s0 = 0 then
    (fX9_dock_46 b σ l1 l2 l3 s0)
  else
    if l1 = l2 then
      (fX9_dock_46 b σ l1 l2 l3 s0)
    else
      (fX9_within σ l3 0 4).bind fun r3 =>
      if r3 = true then
        (fX9_dock_47 b σ l1 l2 l3 s0 1)
      else
        (fX9_dock_46 b σ l1 l2 l3 s0)
theorem bX9_dock_21 {X : Xc} {K : Kc} (C : MC X K cX9_dock 7 RX9 rmX9_dock) (hr : K.meth.sig.returnType = (some .int)) (b : Nat) (hb : moOK b) (σ : Sg) (l1 : Int32) (l2 : Int32) (l3 : Int32) (s0 : Int32) : GO X K 7 (fun r => MQi X K r.1 r.2) (fX9_dock_21 b σ l1 l2 l3 s0) σ 0 0 21 [some (.ref (X.ad b)), some (.int (l1)), some (.int (l2)), some (.int (l3)), none, none, none] [.int (s0)] := by
  unfold fX9_dock_21
  refine g_istore (pc := 21) C dX9_dock_21 (Nat.le_of_ble_eq_true rfl) rfl ?_
  refine g_iload (pc := 23) C dX9_dock_23 rfl ?_
  refine g_if_eq (pc := 25) (tgt := 46) C dX9_dock_25 rfl ?_ ?_
  · refine g_keep [true, true, true, true, true, false, false] ?_
    exact bX9_dock_46 C hr b hb σ l1 l2 l3 s0
  · refine g_iload_n (pc := 28) (i := 1) C dX9_dock_28 rfl rfl ?_
    refine g_iload_n (pc := 29) (i := 2) C dX9_dock_29 rfl rfl ?_
    refine g_icmp_eq (pc := 30) (tgt := 46) C dX9_dock_30 rfl ?_ ?_
    · refine g_keep [true, true, true, true, true, false, false] ?_
      exact bX9_dock_46 C hr b hb σ l1 l2 l3 s0
    · refine g_iload_n (pc := 33) (i := 3) C dX9_dock_33 rfl rfl ?_
      refine g_iconst (pc := 34) (v := 0) C dX9_dock_34 (by decide) ?_
      refine g_iconst (pc := 35) (v := 4) C dX9_dock_35 (by decide) ?_
      refine g_callSi (pc := 36) (As := [.int (l3), .int (0), .int (4)]) C (kX9_within X σ l3 0 4) q_10_6 q_10_7 q_1_5 q_10_8 hdX9_within ⟨Nat.le_of_ble_eq_true rfl, Nat.le_of_ble_eq_true rfl, rfl, rfl⟩ ⟨Nat.zero_le _, Nat.zero_le _⟩ (Nat.le_of_ble_eq_true rfl) rfl rfl dX9_dock_36 (fun r3 _ => ?_)
      refine g_ifb_eq (pc := 39) (tgt := 46) C dX9_dock_39 rfl ?_ ?_
      · refine g_iconst (pc := 42) (v := 1) C dX9_dock_42 (by decide) ?_
        refine g_goto (pc := 43) (tgt := 47) C dX9_dock_43 rfl ?_
        refine g_keep [true, true, true, true, true, false, false] ?_
        exact bX9_dock_47 C hr b hb σ l1 l2 l3 s0 1
      · refine g_keep [true, true, true, true, true, false, false] ?_
        exact bX9_dock_46 C hr b hb σ l1 l2 l3 s0
def fX9_dock_20 (b : Nat) (σ : Sg) (l1 : Int32) (l2 : Int32) (l3 : Int32) : Option (Int32 × Sg) :=
  (fX9_dock_21 b σ l1 l2 l3 0)
theorem bX9_dock_20 {X : Xc} {K : Kc} (C : MC X K cX9_dock 7 RX9 rmX9_dock) (hr : K.meth.sig.returnType = (some .int)) (b : Nat) (hb : moOK b) (σ : Sg) (l1 : Int32) (l2 : Int32) (l3 : Int32) : GO X K 7 (fun r => MQi X K r.1 r.2) (fX9_dock_20 b σ l1 l2 l3) σ 0 0 20 [some (.ref (X.ad b)), some (.int (l1)), some (.int (l2)), some (.int (l3)), none, none, none] [] := by
  unfold fX9_dock_20
  refine g_iconst (pc := 20) (v := 0) C dX9_dock_20 (by decide) ?_
  refine g_keep [true, true, true, true, false, false, false] ?_
  exact bX9_dock_21 C hr b hb σ l1 l2 l3 0
def fX9_dock (σ : Sg) (b : Nat) (p1 : Int32) (p2 : Int32) (p3 : Int32) : Option (Int32 × Sg) :=
  (fX9_isPane σ b p1).bind fun r1 =>
  if r1 = true then
    (fX9_isPane σ b p2).bind fun r2 =>
    if r2 = true then
      (fX9_dock_21 b σ p1 p2 p3 1)
    else
      (fX9_dock_20 b σ p1 p2 p3)
  else
    (fX9_dock_20 b σ p1 p2 p3)
theorem kX9_dock (X : Xc) (σ : Sg) (b : Nat) (p1 : Int32) (p2 : Int32) (p3 : Int32) (hb : moOK b) : ∀ r, fX9_dock σ b p1 p2 p3 = some r → Met X.l yX9_dock (wsM yX9_dock cX9_dock 7 (some .int)) rmX9_dock (va_Pc [.ref (X.ad b), .int p1, .int p2, .int p3] (PW X σ)) (Qi X r.1 r.2) 0 0 X.A := by
  refine mt_of (own := RX9) (lo := [some (.ref (X.ad b)), some (.int (p1)), some (.int (p2)), some (.int (p3)), none, none, none]) (by decide) rfl (Nat.le_of_ble_eq_true rfl) rfl (fun K C hr => ?_)
  unfold fX9_dock
  refine g_aload_n (pc := 0) (i := 0) C dX9_dock_0 rfl rfl ?_
  refine g_iload_n (pc := 1) (i := 1) C dX9_dock_1 rfl rfl ?_
  refine g_callVi (pc := 2) (As := [.int (p1)]) C (kX9_isPane X σ b p1 hb) (blk hb 0 rfl) rfl q_19_16 q_19_17 q_19_18 q_1_5 q_19_19 ⟨rfl, hdX9_isPane⟩ ⟨Nat.le_of_ble_eq_true rfl, Nat.le_of_ble_eq_true rfl, rfl, rfl⟩ ⟨Nat.zero_le _, Nat.zero_le _⟩ (Nat.le_of_ble_eq_true rfl) rfl rfl dX9_dock_2 (fun r1 _ => ?_)
  refine g_ifb_eq (pc := 5) (tgt := 20) C dX9_dock_5 rfl ?_ ?_
  · refine g_aload_n (pc := 8) (i := 0) C dX9_dock_8 rfl rfl ?_
    refine g_iload_n (pc := 9) (i := 2) C dX9_dock_9 rfl rfl ?_
    refine g_callVi (pc := 10) (As := [.int (p2)]) C (kX9_isPane X σ b p2 hb) (blk hb 0 rfl) rfl q_19_16 q_19_17 q_19_18 q_1_5 q_19_19 ⟨rfl, hdX9_isPane⟩ ⟨Nat.le_of_ble_eq_true rfl, Nat.le_of_ble_eq_true rfl, rfl, rfl⟩ ⟨Nat.zero_le _, Nat.zero_le _⟩ (Nat.le_of_ble_eq_true rfl) rfl rfl dX9_dock_10 (fun r2 _ => ?_)
    refine g_ifb_eq (pc := 13) (tgt := 20) C dX9_dock_13 rfl ?_ ?_
    · refine g_iconst (pc := 16) (v := 1) C dX9_dock_16 (by decide) ?_
      refine g_goto (pc := 17) (tgt := 21) C dX9_dock_17 rfl ?_
      refine g_keep [true, true, true, true, false, false, false] ?_
      exact bX9_dock_21 C hr b hb σ p1 p2 p3 1
    · refine g_keep [true, true, true, true, false, false, false] ?_
      exact bX9_dock_20 C hr b hb σ p1 p2 p3
  · refine g_keep [true, true, true, true, false, false, false] ?_
    exact bX9_dock_20 C hr b hb σ p1 p2 p3
theorem dX9_roots_0 : decode cX9_roots 0 = .ok (.aload_n 0, 1) := by decide +kernel
theorem dX9_roots_1 : decode cX9_roots 1 = .ok (.iconst 2, 1) := by decide +kernel
theorem dX9_roots_2 : decode cX9_roots 2 = .ok (.invokevirtual 211, 3) := by decide +kernel
theorem dX9_roots_5 : decode cX9_roots 5 = .ok (.istore_n 3, 1) := by decide +kernel
theorem dX9_roots_6 : decode cX9_roots 6 = .ok (.aload_n 0, 1) := by decide +kernel
theorem dX9_roots_7 : decode cX9_roots 7 = .ok (.iload_n 2, 1) := by decide +kernel
theorem dX9_roots_8 : decode cX9_roots 8 = .ok (.iconst 5, 1) := by decide +kernel
theorem dX9_roots_9 : decode cX9_roots 9 = .ok (.iload_n 3, 1) := by decide +kernel
theorem dX9_roots_10 : decode cX9_roots 10 = .ok (.invokevirtual 94, 3) := by decide +kernel
theorem dX9_roots_13 : decode cX9_roots 13 = .ok (.aload_n 0, 1) := by decide +kernel
theorem dX9_roots_14 : decode cX9_roots 14 = .ok (.iload_n 1, 1) := by decide +kernel
theorem dX9_roots_15 : decode cX9_roots 15 = .ok (.iload_n 3, 1) := by decide +kernel
theorem dX9_roots_16 : decode cX9_roots 16 = .ok (.invokevirtual 208, 3) := by decide +kernel
theorem dX9_roots_19 : decode cX9_roots 19 = .ok (.return_, 1) := by decide +kernel
abbrev rmX9_roots : Room := { frames := 5, cells := 0, slots := 0, locals := 114 }
theorem hdX9_roots : yX9_roots.cls ≠ "java/lang/invoke/MethodHandle" ∧ yX9_roots.cls ≠ "java/lang/invoke/VarHandle" ∧ (parseMethodDescriptor yX9_roots.desc).map (fun d => d.parameters.length) = some 2 := by decide +kernel
def fX9_roots (σ : Sg) (b : Nat) (p1 : Int32) (p2 : Int32) : Option Sg :=
  (fX9_newNode σ b 2).bind fun r1 =>
  (fX9_puts r1.2 b p2 5 r1.1).bind fun σ2 =>
  (fX9_settles σ2 b p1 r1.1).bind fun σ3 =>
  some σ3
theorem kX9_roots (X : Xc) (σ : Sg) (b : Nat) (p1 : Int32) (p2 : Int32) (hb : moOK b) : ∀ r, fX9_roots σ b p1 p2 = some r → Met X.l yX9_roots (wsM yX9_roots cX9_roots 4 none) rmX9_roots (va_Pc [.ref (X.ad b), .int p1, .int p2] (PW X σ)) (Qv X r) 0 0 X.A := by
  refine mt_of (own := RX9) (lo := [some (.ref (X.ad b)), some (.int (p1)), some (.int (p2)), none]) (by decide) rfl (Nat.le_of_ble_eq_true rfl) rfl (fun K C hr => ?_)
  unfold fX9_roots
  refine g_aload_n (pc := 0) (i := 0) C dX9_roots_0 rfl rfl ?_
  refine g_iconst (pc := 1) (v := 2) C dX9_roots_1 (by decide) ?_
  refine g_callVi (pc := 2) (As := [.int (2)]) C (kX9_newNode X σ b 2 hb) (blk hb 0 rfl) rfl q_35_2 q_35_3 q_35_4 q_1_5 q_35_5 ⟨rfl, hdX9_newNode⟩ ⟨Nat.le_of_ble_eq_true rfl, Nat.le_of_ble_eq_true rfl, rfl, rfl⟩ ⟨Nat.zero_le _, Nat.zero_le _⟩ (Nat.le_of_ble_eq_true rfl) rfl rfl dX9_roots_2 (fun r1 _ => ?_)
  refine g_istore_n (pc := 5) (i := 3) C dX9_roots_5 rfl (Nat.le_of_ble_eq_true rfl) rfl ?_
  refine g_aload_n (pc := 6) (i := 0) C dX9_roots_6 rfl rfl ?_
  refine g_iload_n (pc := 7) (i := 2) C dX9_roots_7 rfl rfl ?_
  refine g_iconst (pc := 8) (v := 5) C dX9_roots_8 (by decide) ?_
  refine g_iload_n (pc := 9) (i := 3) C dX9_roots_9 rfl rfl ?_
  refine g_callVv (pc := 10) (As := [.int (p2), .int (5), .int (r1.1)]) C (kX9_puts X r1.2 b p2 5 r1.1 hb) (blk hb 0 rfl) rfl q_22_16 q_22_17 q_22_18 q_1_5 q_22_19 ⟨rfl, hdX9_puts⟩ ⟨Nat.le_of_ble_eq_true rfl, Nat.le_of_ble_eq_true rfl, rfl, rfl⟩ ⟨Nat.zero_le _, Nat.zero_le _⟩ (Nat.le_of_ble_eq_true rfl) rfl rfl dX9_roots_10 (fun σ2 _ => ?_)
  refine g_aload_n (pc := 13) (i := 0) C dX9_roots_13 rfl rfl ?_
  refine g_iload_n (pc := 14) (i := 1) C dX9_roots_14 rfl rfl ?_
  refine g_iload_n (pc := 15) (i := 3) C dX9_roots_15 rfl rfl ?_
  refine g_callVv (pc := 16) (As := [.int (p1), .int (r1.1)]) C (kX9_settles X σ2 b p1 r1.1 hb) (blk hb 0 rfl) rfl q_35_10 q_35_11 q_35_12 q_1_5 q_35_13 ⟨rfl, hdX9_settles⟩ ⟨Nat.le_of_ble_eq_true rfl, Nat.le_of_ble_eq_true rfl, rfl, rfl⟩ ⟨Nat.zero_le _, Nat.zero_le _⟩ (Nat.le_of_ble_eq_true rfl) rfl rfl dX9_roots_16 (fun σ3 _ => ?_)
  exact g_vret (pc := 19) C hr dX9_roots_19 rfl
theorem dX9_start_0 : decode cX9_start 0 = .ok (.aload_n 0, 1) := by decide +kernel
theorem dX9_start_1 : decode cX9_start 1 = .ok (.iload_n 1, 1) := by decide +kernel
theorem dX9_start_2 : decode cX9_start 2 = .ok (.invokevirtual 144, 3) := by decide +kernel
theorem dX9_start_5 : decode cX9_start 5 = .ok (.istore_n 2, 1) := by decide +kernel
theorem dX9_start_6 : decode cX9_start 6 = .ok (.iload_n 2, 1) := by decide +kernel
theorem dX9_start_7 : decode cX9_start 7 = .ok (.ifCond .eq 38, 3) := by decide +kernel
theorem dX9_start_10 : decode cX9_start 10 = .ok (.aload_n 0, 1) := by decide +kernel
theorem dX9_start_11 : decode cX9_start 11 = .ok (.iconst 0, 1) := by decide +kernel
theorem dX9_start_12 : decode cX9_start 12 = .ok (.invokevirtual 199, 3) := by decide +kernel
theorem dX9_start_15 : decode cX9_start 15 = .ok (.aload_n 0, 1) := by decide +kernel
theorem dX9_start_16 : decode cX9_start 16 = .ok (.iload_n 1, 1) := by decide +kernel
theorem dX9_start_17 : decode cX9_start 17 = .ok (.invokevirtual 69, 3) := by decide +kernel
theorem dX9_start_20 : decode cX9_start 20 = .ok (.ifCond .eq 20, 3) := by decide +kernel
theorem dX9_start_23 : decode cX9_start 23 = .ok (.aload_n 0, 1) := by decide +kernel
theorem dX9_start_24 : decode cX9_start 24 = .ok (.aload_n 0, 1) := by decide +kernel
theorem dX9_start_25 : decode cX9_start 25 = .ok (.iload_n 1, 1) := by decide +kernel
theorem dX9_start_26 : decode cX9_start 26 = .ok (.iconst 3, 1) := by decide +kernel
theorem dX9_start_27 : decode cX9_start 27 = .ok (.invokevirtual 65, 3) := by decide +kernel
theorem dX9_start_30 : decode cX9_start 30 = .ok (.invokevirtual 91, 3) := by decide +kernel
theorem dX9_start_33 : decode cX9_start 33 = .ok (.ifCond .ne 7, 3) := by decide +kernel
theorem dX9_start_36 : decode cX9_start 36 = .ok (.iconst 1, 1) := by decide +kernel
theorem dX9_start_37 : decode cX9_start 37 = .ok (.goto 4, 3) := by decide +kernel
theorem dX9_start_40 : decode cX9_start 40 = .ok (.iconst 0, 1) := by decide +kernel
theorem dX9_start_41 : decode cX9_start 41 = .ok (.isub, 1) := by decide +kernel
theorem dX9_start_42 : decode cX9_start 42 = .ok (.goto 4, 3) := by decide +kernel
theorem dX9_start_45 : decode cX9_start 45 = .ok (.iconst 0, 1) := by decide +kernel
theorem dX9_start_46 : decode cX9_start 46 = .ok (.istore_n 3, 1) := by decide +kernel
theorem dX9_start_47 : decode cX9_start 47 = .ok (.aload_n 0, 1) := by decide +kernel
theorem dX9_start_48 : decode cX9_start 48 = .ok (.iload_n 2, 1) := by decide +kernel
theorem dX9_start_49 : decode cX9_start 49 = .ok (.ifCond .ne 7, 3) := by decide +kernel
theorem dX9_start_52 : decode cX9_start 52 = .ok (.iconst 1, 1) := by decide +kernel
theorem dX9_start_53 : decode cX9_start 53 = .ok (.goto 12, 3) := by decide +kernel
theorem dX9_start_56 : decode cX9_start 56 = .ok (.iload_n 3, 1) := by decide +kernel
theorem dX9_start_57 : decode cX9_start 57 = .ok (.ifCond .le 7, 3) := by decide +kernel
theorem dX9_start_60 : decode cX9_start 60 = .ok (.iconst 2, 1) := by decide +kernel
theorem dX9_start_61 : decode cX9_start 61 = .ok (.goto 4, 3) := by decide +kernel
theorem dX9_start_64 : decode cX9_start 64 = .ok (.iconst 0, 1) := by decide +kernel
theorem dX9_start_65 : decode cX9_start 65 = .ok (.invokevirtual 57, 3) := by decide +kernel
theorem dX9_start_68 : decode cX9_start 68 = .ok (.ifCond .eq 5, 3) := by decide +kernel
theorem dX9_start_71 : decode cX9_start 71 = .ok (.iconst 0, 1) := by decide +kernel
theorem dX9_start_72 : decode cX9_start 72 = .ok (.ireturn, 1) := by decide +kernel
theorem dX9_start_73 : decode cX9_start 73 = .ok (.aload_n 0, 1) := by decide +kernel
theorem dX9_start_74 : decode cX9_start 74 = .ok (.invokevirtual 141, 3) := by decide +kernel
theorem dX9_start_77 : decode cX9_start 77 = .ok (.aload_n 0, 1) := by decide +kernel
theorem dX9_start_78 : decode cX9_start 78 = .ok (.iload_n 1, 1) := by decide +kernel
theorem dX9_start_79 : decode cX9_start 79 = .ok (.invokevirtual 147, 3) := by decide +kernel
theorem dX9_start_82 : decode cX9_start 82 = .ok (.aload_n 0, 1) := by decide +kernel
theorem dX9_start_83 : decode cX9_start 83 = .ok (.iload_n 1, 1) := by decide +kernel
theorem dX9_start_84 : decode cX9_start 84 = .ok (.iconst 0, 1) := by decide +kernel
theorem dX9_start_85 : decode cX9_start 85 = .ok (.invokevirtual 217, 3) := by decide +kernel
theorem dX9_start_88 : decode cX9_start 88 = .ok (.iconst 0, 1) := by decide +kernel
theorem dX9_start_89 : decode cX9_start 89 = .ok (.ireturn, 1) := by decide +kernel
abbrev rmX9_start : Room := { frames := 7, cells := 0, slots := 0, locals := 156 }
theorem hdX9_start : yX9_start.cls ≠ "java/lang/invoke/MethodHandle" ∧ yX9_start.cls ≠ "java/lang/invoke/VarHandle" ∧ (parseMethodDescriptor yX9_start.desc).map (fun d => d.parameters.length) = some 1 := by decide +kernel
def fX9_start_65 (b : Nat) (σ : Sg) (l1 : Int32) (s1 : Int32) : Option (Int32 × Sg) :=
  (fX9_refused σ b s1).bind fun r6 =>
  if r6.1 = true then
    some (0, r6.2)
  else
    (fX9_saves r6.2 b).bind fun σ7 =>
    (fX9_takes σ7 b l1).bind fun σ8 =>
    (fX9_roots σ8 b l1 0).bind fun σ9 =>
    some (0, σ9)
theorem bX9_start_65 {X : Xc} {K : Kc} (C : MC X K cX9_start 4 RX9 rmX9_start) (hr : K.meth.sig.returnType = (some .int)) (b : Nat) (hb : moOK b) (σ : Sg) (l1 : Int32) (s1 : Int32) : GO X K 4 (fun r => MQi X K r.1 r.2) (fX9_start_65 b σ l1 s1) σ 0 0 65 [some (.ref (X.ad b)), some (.int (l1)), none, none] [.int (s1), .ref (X.ad b)] := by
  unfold fX9_start_65
  refine g_callVi (pc := 65) (As := [.int (s1)]) C (kX9_refused X σ b s1 hb) (blk hb 0 rfl) rfl q_10_9 q_10_10 q_10_11 q_1_5 q_10_12 ⟨rfl, hdX9_refused⟩ ⟨Nat.le_of_ble_eq_true rfl, Nat.le_of_ble_eq_true rfl, rfl, rfl⟩ ⟨Nat.zero_le _, Nat.zero_le _⟩ (Nat.le_of_ble_eq_true rfl) rfl rfl dX9_start_65 (fun r6 _ => ?_)
  refine g_ifb_eq (pc := 68) (tgt := 73) C dX9_start_68 rfl ?_ ?_
  · refine g_iconst (pc := 71) (v := 0) C dX9_start_71 (by decide) ?_
    exact g_iret (pc := 72) C hr dX9_start_72 rfl
  · refine g_aload_n (pc := 73) (i := 0) C dX9_start_73 rfl rfl ?_
    refine g_callVv (pc := 74) (As := []) C (kX9_saves X r6.2 b hb) (blk hb 0 rfl) rfl q_10_14 q_10_15 q_10_16 q_1_5 q_10_17 ⟨rfl, hdX9_saves⟩ ⟨Nat.le_of_ble_eq_true rfl, Nat.le_of_ble_eq_true rfl, rfl, rfl⟩ ⟨Nat.zero_le _, Nat.zero_le _⟩ (Nat.le_of_ble_eq_true rfl) rfl rfl dX9_start_74 (fun σ7 _ => ?_)
    refine g_aload_n (pc := 77) (i := 0) C dX9_start_77 rfl rfl ?_
    refine g_iload_n (pc := 78) (i := 1) C dX9_start_78 rfl rfl ?_
    refine g_callVv (pc := 79) (As := [.int (l1)]) C (kX9_takes X σ7 b l1 hb) (blk hb 0 rfl) rfl q_19_20 q_19_21 q_19_22 q_1_5 q_19_23 ⟨rfl, hdX9_takes⟩ ⟨Nat.le_of_ble_eq_true rfl, Nat.le_of_ble_eq_true rfl, rfl, rfl⟩ ⟨Nat.zero_le _, Nat.zero_le _⟩ (Nat.le_of_ble_eq_true rfl) rfl rfl dX9_start_79 (fun σ8 _ => ?_)
    refine g_aload_n (pc := 82) (i := 0) C dX9_start_82 rfl rfl ?_
    refine g_iload_n (pc := 83) (i := 1) C dX9_start_83 rfl rfl ?_
    refine g_iconst (pc := 84) (v := 0) C dX9_start_84 (by decide) ?_
    refine g_callVv (pc := 85) (As := [.int (l1), .int (0)]) C (kX9_roots X σ8 b l1 0 hb) (blk hb 0 rfl) rfl q_36_13 q_36_14 q_36_15 q_1_5 q_36_16 ⟨rfl, hdX9_roots⟩ ⟨Nat.le_of_ble_eq_true rfl, Nat.le_of_ble_eq_true rfl, rfl, rfl⟩ ⟨Nat.zero_le _, Nat.zero_le _⟩ (Nat.le_of_ble_eq_true rfl) rfl rfl dX9_start_85 (fun σ9 _ => ?_)
    refine g_iconst (pc := 88) (v := 0) C dX9_start_88 (by decide) ?_
    exact g_iret (pc := 89) C hr dX9_start_89 rfl
def fX9_start_46 (b : Nat) (σ : Sg) (l1 : Int32) (l2 : Int32) (s0 : Int32) : Option (Int32 × Sg) :=
  if l2 = 0 then
    (fX9_start_65 b σ l1 1)
  else
    if s0 ≤ 0 then
      (fX9_start_65 b σ l1 0)
    else
      (fX9_start_65 b σ l1 2)
theorem bX9_start_46 {X : Xc} {K : Kc} (C : MC X K cX9_start 4 RX9 rmX9_start) (hr : K.meth.sig.returnType = (some .int)) (b : Nat) (hb : moOK b) (σ : Sg) (l1 : Int32) (l2 : Int32) (s0 : Int32) : GO X K 4 (fun r => MQi X K r.1 r.2) (fX9_start_46 b σ l1 l2 s0) σ 0 0 46 [some (.ref (X.ad b)), some (.int (l1)), some (.int (l2)), none] [.int (s0)] := by
  unfold fX9_start_46
  refine g_istore_n (pc := 46) (i := 3) C dX9_start_46 rfl (Nat.le_of_ble_eq_true rfl) rfl ?_
  refine g_aload_n (pc := 47) (i := 0) C dX9_start_47 rfl rfl ?_
  refine g_iload_n (pc := 48) (i := 2) C dX9_start_48 rfl rfl ?_
  refine g_if_ne (pc := 49) (tgt := 56) C dX9_start_49 rfl ?_ ?_
  · refine g_iconst (pc := 52) (v := 1) C dX9_start_52 (by decide) ?_
    refine g_goto (pc := 53) (tgt := 65) C dX9_start_53 rfl ?_
    refine g_keep [true, true, false, false] ?_
    exact bX9_start_65 C hr b hb σ l1 1
  · refine g_iload_n (pc := 56) (i := 3) C dX9_start_56 rfl rfl ?_
    refine g_if_le (pc := 57) (tgt := 64) C dX9_start_57 rfl ?_ ?_
    · refine g_iconst (pc := 64) (v := 0) C dX9_start_64 (by decide) ?_
      refine g_keep [true, true, false, false] ?_
      exact bX9_start_65 C hr b hb σ l1 0
    · refine g_iconst (pc := 60) (v := 2) C dX9_start_60 (by decide) ?_
      refine g_goto (pc := 61) (tgt := 65) C dX9_start_61 rfl ?_
      refine g_keep [true, true, false, false] ?_
      exact bX9_start_65 C hr b hb σ l1 2
def fX9_start_41 (b : Nat) (σ : Sg) (l1 : Int32) (l2 : Int32) (s0 : Int32) (s1 : Int32) : Option (Int32 × Sg) :=
  (fX9_start_46 b σ l1 l2 (s0 - s1))
theorem bX9_start_41 {X : Xc} {K : Kc} (C : MC X K cX9_start 4 RX9 rmX9_start) (hr : K.meth.sig.returnType = (some .int)) (b : Nat) (hb : moOK b) (σ : Sg) (l1 : Int32) (l2 : Int32) (s0 : Int32) (s1 : Int32) : GO X K 4 (fun r => MQi X K r.1 r.2) (fX9_start_41 b σ l1 l2 s0 s1) σ 0 0 41 [some (.ref (X.ad b)), some (.int (l1)), some (.int (l2)), none] [.int (s1), .int (s0)] := by
  unfold fX9_start_41
  refine g_isub (pc := 41) C dX9_start_41 ?_
  refine g_goto (pc := 42) (tgt := 46) C dX9_start_42 rfl ?_
  refine g_keep [true, true, true, false] ?_
  exact bX9_start_46 C hr b hb σ l1 l2 (s0 - s1)
def fX9_start_40 (b : Nat) (σ : Sg) (l1 : Int32) (l2 : Int32) (s0 : Int32) : Option (Int32 × Sg) :=
  (fX9_start_41 b σ l1 l2 s0 0)
theorem bX9_start_40 {X : Xc} {K : Kc} (C : MC X K cX9_start 4 RX9 rmX9_start) (hr : K.meth.sig.returnType = (some .int)) (b : Nat) (hb : moOK b) (σ : Sg) (l1 : Int32) (l2 : Int32) (s0 : Int32) : GO X K 4 (fun r => MQi X K r.1 r.2) (fX9_start_40 b σ l1 l2 s0) σ 0 0 40 [some (.ref (X.ad b)), some (.int (l1)), some (.int (l2)), none] [.int (s0)] := by
  unfold fX9_start_40
  refine g_iconst (pc := 40) (v := 0) C dX9_start_40 (by decide) ?_
  refine g_keep [true, true, true, false] ?_
  exact bX9_start_41 C hr b hb σ l1 l2 s0 0
def fX9_start (σ : Sg) (b : Nat) (p1 : Int32) : Option (Int32 × Sg) :=
  (fX9_isPane σ b p1).bind fun r1 =>
  if r1 = true then
    (fX9_placedIn σ b 0).bind fun r2 =>
    (fX9_isPlaced σ b p1).bind fun r3 =>
    if r3 = true then
      (fX9_of σ b p1 3).bind fun r4 =>
      (fX9_windowOf σ b r4).bind fun r5 =>
      if r5 = 0 then
        (fX9_start_41 b σ p1 (b2i r1) r2 1)
      else
        (fX9_start_40 b σ p1 (b2i r1) r2)
    else
      (fX9_start_40 b σ p1 (b2i r1) r2)
  else
    (fX9_start_46 b σ p1 (b2i r1) 0)
theorem kX9_start (X : Xc) (σ : Sg) (b : Nat) (p1 : Int32) (hb : moOK b) : ∀ r, fX9_start σ b p1 = some r → Met X.l yX9_start (wsM yX9_start cX9_start 4 (some .int)) rmX9_start (va_Pc [.ref (X.ad b), .int p1] (PW X σ)) (Qi X r.1 r.2) 0 0 X.A := by
  refine mt_of (own := RX9) (lo := [some (.ref (X.ad b)), some (.int (p1)), none, none]) (by decide) rfl (Nat.le_of_ble_eq_true rfl) rfl (fun K C hr => ?_)
  unfold fX9_start
  refine g_aload_n (pc := 0) (i := 0) C dX9_start_0 rfl rfl ?_
  refine g_iload_n (pc := 1) (i := 1) C dX9_start_1 rfl rfl ?_
  refine g_callVi (pc := 2) (As := [.int (p1)]) C (kX9_isPane X σ b p1 hb) (blk hb 0 rfl) rfl q_19_16 q_19_17 q_19_18 q_1_5 q_19_19 ⟨rfl, hdX9_isPane⟩ ⟨Nat.le_of_ble_eq_true rfl, Nat.le_of_ble_eq_true rfl, rfl, rfl⟩ ⟨Nat.zero_le _, Nat.zero_le _⟩ (Nat.le_of_ble_eq_true rfl) rfl rfl dX9_start_2 (fun r1 _ => ?_)
  refine g_istore_n (pc := 5) (i := 2) C dX9_start_5 rfl (Nat.le_of_ble_eq_true rfl) rfl ?_
  refine g_iload_n (pc := 6) (i := 2) C dX9_start_6 rfl rfl ?_
  refine g_ifb_eq (pc := 7) (tgt := 45) C dX9_start_7 rfl ?_ ?_
  · refine g_aload_n (pc := 10) (i := 0) C dX9_start_10 rfl rfl ?_
    refine g_iconst (pc := 11) (v := 0) C dX9_start_11 (by decide) ?_
    refine g_callVi (pc := 12) (As := [.int (0)]) C (kX9_placedIn X σ b 0 hb) (blk hb 0 rfl) rfl q_30_7 q_30_8 q_30_9 q_1_5 q_30_10 ⟨rfl, hdX9_placedIn⟩ ⟨Nat.le_of_ble_eq_true rfl, Nat.le_of_ble_eq_true rfl, rfl, rfl⟩ ⟨Nat.zero_le _, Nat.zero_le _⟩ (Nat.le_of_ble_eq_true rfl) rfl rfl dX9_start_12 (fun r2 _ => ?_)
    refine g_aload_n (pc := 15) (i := 0) C dX9_start_15 rfl rfl ?_
    refine g_iload_n (pc := 16) (i := 1) C dX9_start_16 rfl rfl ?_
    refine g_callVi (pc := 17) (As := [.int (p1)]) C (kX9_isPlaced X σ b p1 hb) (blk hb 0 rfl) rfl q_20_0 q_20_1 q_20_2 q_1_5 q_20_3 ⟨rfl, hdX9_isPlaced⟩ ⟨Nat.le_of_ble_eq_true rfl, Nat.le_of_ble_eq_true rfl, rfl, rfl⟩ ⟨Nat.zero_le _, Nat.zero_le _⟩ (Nat.le_of_ble_eq_true rfl) rfl rfl dX9_start_17 (fun r3 _ => ?_)
    refine g_ifb_eq (pc := 20) (tgt := 40) C dX9_start_20 rfl ?_ ?_
    · refine g_aload_n (pc := 23) (i := 0) C dX9_start_23 rfl rfl ?_
      refine g_aload_n (pc := 24) (i := 0) C dX9_start_24 rfl rfl ?_
      refine g_iload_n (pc := 25) (i := 1) C dX9_start_25 rfl rfl ?_
      refine g_iconst (pc := 26) (v := 3) C dX9_start_26 (by decide) ?_
      refine g_callVi (pc := 27) (As := [.int (p1), .int (3)]) C (kX9_of X σ b p1 3 hb) (blk hb 0 rfl) rfl q_10_2 q_10_3 q_10_4 q_1_5 q_10_5 ⟨rfl, hdX9_of⟩ ⟨Nat.le_of_ble_eq_true rfl, Nat.le_of_ble_eq_true rfl, rfl, rfl⟩ ⟨Nat.zero_le _, Nat.zero_le _⟩ (Nat.le_of_ble_eq_true rfl) rfl rfl dX9_start_27 (fun r4 _ => ?_)
      refine g_callVi (pc := 30) (As := [.int (r4)]) C (kX9_windowOf X σ b r4 hb) (blk hb 0 rfl) rfl q_22_4 q_22_5 q_22_6 q_1_5 q_22_7 ⟨rfl, hdX9_windowOf⟩ ⟨Nat.le_of_ble_eq_true rfl, Nat.le_of_ble_eq_true rfl, rfl, rfl⟩ ⟨Nat.zero_le _, Nat.zero_le _⟩ (Nat.le_of_ble_eq_true rfl) rfl rfl dX9_start_30 (fun r5 _ => ?_)
      refine g_if_ne (pc := 33) (tgt := 40) C dX9_start_33 rfl ?_ ?_
      · refine g_iconst (pc := 36) (v := 1) C dX9_start_36 (by decide) ?_
        refine g_goto (pc := 37) (tgt := 41) C dX9_start_37 rfl ?_
        refine g_keep [true, true, true, false] ?_
        exact bX9_start_41 C hr b hb σ p1 (b2i r1) r2 1
      · refine g_keep [true, true, true, false] ?_
        exact bX9_start_40 C hr b hb σ p1 (b2i r1) r2
    · refine g_keep [true, true, true, false] ?_
      exact bX9_start_40 C hr b hb σ p1 (b2i r1) r2
  · refine g_iconst (pc := 45) (v := 0) C dX9_start_45 (by decide) ?_
    refine g_keep [true, true, true, false] ?_
    exact bX9_start_46 C hr b hb σ p1 (b2i r1) 0
theorem dX9_floatAt_0 : decode cX9_floatAt 0 = .ok (.iload_n 2, 1) := by decide +kernel
theorem dX9_floatAt_1 : decode cX9_floatAt 1 = .ok (.sipush (-400), 3) := by decide +kernel
theorem dX9_floatAt_4 : decode cX9_floatAt 4 = .ok (.sipush 400, 3) := by decide +kernel
theorem dX9_floatAt_7 : decode cX9_floatAt 7 = .ok (.invokestatic 61, 3) := by decide +kernel
theorem dX9_floatAt_10 : decode cX9_floatAt 10 = .ok (.ifCond .eq 46, 3) := by decide +kernel
theorem dX9_floatAt_13 : decode cX9_floatAt 13 = .ok (.iload_n 3, 1) := by decide +kernel
theorem dX9_floatAt_14 : decode cX9_floatAt 14 = .ok (.sipush (-400), 3) := by decide +kernel
theorem dX9_floatAt_17 : decode cX9_floatAt 17 = .ok (.sipush 400, 3) := by decide +kernel
theorem dX9_floatAt_20 : decode cX9_floatAt 20 = .ok (.invokestatic 61, 3) := by decide +kernel
theorem dX9_floatAt_23 : decode cX9_floatAt 23 = .ok (.ifCond .eq 33, 3) := by decide +kernel
theorem dX9_floatAt_26 : decode cX9_floatAt 26 = .ok (.iload 4, 2) := by decide +kernel
theorem dX9_floatAt_28 : decode cX9_floatAt 28 = .ok (.bipush 10, 2) := by decide +kernel
theorem dX9_floatAt_30 : decode cX9_floatAt 30 = .ok (.sipush 400, 3) := by decide +kernel
theorem dX9_floatAt_33 : decode cX9_floatAt 33 = .ok (.invokestatic 61, 3) := by decide +kernel
theorem dX9_floatAt_36 : decode cX9_floatAt 36 = .ok (.ifCond .eq 20, 3) := by decide +kernel
theorem dX9_floatAt_39 : decode cX9_floatAt 39 = .ok (.iload 5, 2) := by decide +kernel
theorem dX9_floatAt_41 : decode cX9_floatAt 41 = .ok (.bipush 10, 2) := by decide +kernel
theorem dX9_floatAt_43 : decode cX9_floatAt 43 = .ok (.sipush 400, 3) := by decide +kernel
theorem dX9_floatAt_46 : decode cX9_floatAt 46 = .ok (.invokestatic 61, 3) := by decide +kernel
theorem dX9_floatAt_49 : decode cX9_floatAt 49 = .ok (.ifCond .eq 7, 3) := by decide +kernel
theorem dX9_floatAt_52 : decode cX9_floatAt 52 = .ok (.iconst 1, 1) := by decide +kernel
theorem dX9_floatAt_53 : decode cX9_floatAt 53 = .ok (.goto 4, 3) := by decide +kernel
theorem dX9_floatAt_56 : decode cX9_floatAt 56 = .ok (.iconst 0, 1) := by decide +kernel
theorem dX9_floatAt_57 : decode cX9_floatAt 57 = .ok (.istore 6, 2) := by decide +kernel
theorem dX9_floatAt_59 : decode cX9_floatAt 59 = .ok (.aload_n 0, 1) := by decide +kernel
theorem dX9_floatAt_60 : decode cX9_floatAt 60 = .ok (.aload_n 0, 1) := by decide +kernel
theorem dX9_floatAt_61 : decode cX9_floatAt 61 = .ok (.iload_n 1, 1) := by decide +kernel
theorem dX9_floatAt_62 : decode cX9_floatAt 62 = .ok (.invokevirtual 144, 3) := by decide +kernel
theorem dX9_floatAt_65 : decode cX9_floatAt 65 = .ok (.ifCond .ne 7, 3) := by decide +kernel
theorem dX9_floatAt_68 : decode cX9_floatAt 68 = .ok (.iconst 1, 1) := by decide +kernel
theorem dX9_floatAt_69 : decode cX9_floatAt 69 = .ok (.goto 29, 3) := by decide +kernel
theorem dX9_floatAt_72 : decode cX9_floatAt 72 = .ok (.iload 6, 2) := by decide +kernel
theorem dX9_floatAt_74 : decode cX9_floatAt 74 = .ok (.ifCond .ne 7, 3) := by decide +kernel
theorem dX9_floatAt_77 : decode cX9_floatAt 77 = .ok (.iconst 2, 1) := by decide +kernel
theorem dX9_floatAt_78 : decode cX9_floatAt 78 = .ok (.goto 20, 3) := by decide +kernel
theorem dX9_floatAt_81 : decode cX9_floatAt 81 = .ok (.aload_n 0, 1) := by decide +kernel
theorem dX9_floatAt_82 : decode cX9_floatAt 82 = .ok (.getfield 7, 3) := by decide +kernel
theorem dX9_floatAt_85 : decode cX9_floatAt 85 = .ok (.sipush 246, 3) := by decide +kernel
theorem dX9_floatAt_88 : decode cX9_floatAt 88 = .ok (.iaload, 1) := by decide +kernel
theorem dX9_floatAt_89 : decode cX9_floatAt 89 = .ok (.iconst 4, 1) := by decide +kernel
theorem dX9_floatAt_90 : decode cX9_floatAt 90 = .ok (.if_icmp .ne 7, 3) := by decide +kernel
theorem dX9_floatAt_93 : decode cX9_floatAt 93 = .ok (.iconst 3, 1) := by decide +kernel
theorem dX9_floatAt_94 : decode cX9_floatAt 94 = .ok (.goto 4, 3) := by decide +kernel
theorem dX9_floatAt_97 : decode cX9_floatAt 97 = .ok (.iconst 0, 1) := by decide +kernel
theorem dX9_floatAt_98 : decode cX9_floatAt 98 = .ok (.invokevirtual 57, 3) := by decide +kernel
theorem dX9_floatAt_101 : decode cX9_floatAt 101 = .ok (.ifCond .eq 5, 3) := by decide +kernel
theorem dX9_floatAt_104 : decode cX9_floatAt 104 = .ok (.iconst 0, 1) := by decide +kernel
theorem dX9_floatAt_105 : decode cX9_floatAt 105 = .ok (.ireturn, 1) := by decide +kernel
theorem dX9_floatAt_106 : decode cX9_floatAt 106 = .ok (.aload_n 0, 1) := by decide +kernel
theorem dX9_floatAt_107 : decode cX9_floatAt 107 = .ok (.invokevirtual 141, 3) := by decide +kernel
theorem dX9_floatAt_110 : decode cX9_floatAt 110 = .ok (.aload_n 0, 1) := by decide +kernel
theorem dX9_floatAt_111 : decode cX9_floatAt 111 = .ok (.iload_n 1, 1) := by decide +kernel
theorem dX9_floatAt_112 : decode cX9_floatAt 112 = .ok (.invokevirtual 147, 3) := by decide +kernel
theorem dX9_floatAt_115 : decode cX9_floatAt 115 = .ok (.iconst 1, 1) := by decide +kernel
theorem dX9_floatAt_116 : decode cX9_floatAt 116 = .ok (.istore 7, 2) := by decide +kernel
theorem dX9_floatAt_118 : decode cX9_floatAt 118 = .ok (.aload_n 0, 1) := by decide +kernel
theorem dX9_floatAt_119 : decode cX9_floatAt 119 = .ok (.iload 7, 2) := by decide +kernel
theorem dX9_floatAt_121 : decode cX9_floatAt 121 = .ok (.invokevirtual 187, 3) := by decide +kernel
theorem dX9_floatAt_124 : decode cX9_floatAt 124 = .ok (.ifCond .eq 9, 3) := by decide +kernel
theorem dX9_floatAt_127 : decode cX9_floatAt 127 = .ok (.iinc 7 1, 3) := by decide +kernel
theorem dX9_floatAt_130 : decode cX9_floatAt 130 = .ok (.goto (-12), 3) := by decide +kernel
theorem dX9_floatAt_133 : decode cX9_floatAt 133 = .ok (.aload_n 0, 1) := by decide +kernel
theorem dX9_floatAt_134 : decode cX9_floatAt 134 = .ok (.iload 7, 2) := by decide +kernel
theorem dX9_floatAt_136 : decode cX9_floatAt 136 = .ok (.iconst 0, 1) := by decide +kernel
theorem dX9_floatAt_137 : decode cX9_floatAt 137 = .ok (.iconst 1, 1) := by decide +kernel
theorem dX9_floatAt_138 : decode cX9_floatAt 138 = .ok (.invokevirtual 94, 3) := by decide +kernel
theorem dX9_floatAt_141 : decode cX9_floatAt 141 = .ok (.aload_n 0, 1) := by decide +kernel
theorem dX9_floatAt_142 : decode cX9_floatAt 142 = .ok (.iload 7, 2) := by decide +kernel
theorem dX9_floatAt_144 : decode cX9_floatAt 144 = .ok (.iconst 1, 1) := by decide +kernel
theorem dX9_floatAt_145 : decode cX9_floatAt 145 = .ok (.iload_n 2, 1) := by decide +kernel
theorem dX9_floatAt_146 : decode cX9_floatAt 146 = .ok (.invokevirtual 94, 3) := by decide +kernel
theorem dX9_floatAt_149 : decode cX9_floatAt 149 = .ok (.aload_n 0, 1) := by decide +kernel
theorem dX9_floatAt_150 : decode cX9_floatAt 150 = .ok (.iload 7, 2) := by decide +kernel
theorem dX9_floatAt_152 : decode cX9_floatAt 152 = .ok (.iconst 2, 1) := by decide +kernel
theorem dX9_floatAt_153 : decode cX9_floatAt 153 = .ok (.iload_n 3, 1) := by decide +kernel
theorem dX9_floatAt_154 : decode cX9_floatAt 154 = .ok (.invokevirtual 94, 3) := by decide +kernel
theorem dX9_floatAt_157 : decode cX9_floatAt 157 = .ok (.aload_n 0, 1) := by decide +kernel
theorem dX9_floatAt_158 : decode cX9_floatAt 158 = .ok (.iload 7, 2) := by decide +kernel
theorem dX9_floatAt_160 : decode cX9_floatAt 160 = .ok (.iconst 3, 1) := by decide +kernel
theorem dX9_floatAt_161 : decode cX9_floatAt 161 = .ok (.iload 4, 2) := by decide +kernel
theorem dX9_floatAt_163 : decode cX9_floatAt 163 = .ok (.invokevirtual 94, 3) := by decide +kernel
theorem dX9_floatAt_166 : decode cX9_floatAt 166 = .ok (.aload_n 0, 1) := by decide +kernel
theorem dX9_floatAt_167 : decode cX9_floatAt 167 = .ok (.iload 7, 2) := by decide +kernel
theorem dX9_floatAt_169 : decode cX9_floatAt 169 = .ok (.iconst 4, 1) := by decide +kernel
theorem dX9_floatAt_170 : decode cX9_floatAt 170 = .ok (.iload 5, 2) := by decide +kernel
theorem dX9_floatAt_172 : decode cX9_floatAt 172 = .ok (.invokevirtual 94, 3) := by decide +kernel
theorem dX9_floatAt_175 : decode cX9_floatAt 175 = .ok (.aload_n 0, 1) := by decide +kernel
theorem dX9_floatAt_176 : decode cX9_floatAt 176 = .ok (.sipush 246, 3) := by decide +kernel
theorem dX9_floatAt_179 : decode cX9_floatAt 179 = .ok (.iload 7, 2) := by decide +kernel
theorem dX9_floatAt_181 : decode cX9_floatAt 181 = .ok (.invokevirtual 104, 3) := by decide +kernel
theorem dX9_floatAt_184 : decode cX9_floatAt 184 = .ok (.aload_n 0, 1) := by decide +kernel
theorem dX9_floatAt_185 : decode cX9_floatAt 185 = .ok (.iload_n 1, 1) := by decide +kernel
theorem dX9_floatAt_186 : decode cX9_floatAt 186 = .ok (.iload 7, 2) := by decide +kernel
theorem dX9_floatAt_188 : decode cX9_floatAt 188 = .ok (.invokevirtual 217, 3) := by decide +kernel
theorem dX9_floatAt_191 : decode cX9_floatAt 191 = .ok (.iload 7, 2) := by decide +kernel
theorem dX9_floatAt_193 : decode cX9_floatAt 193 = .ok (.ireturn, 1) := by decide +kernel
abbrev rmX9_floatAt : Room := { frames := 7, cells := 0, slots := 0, locals := 156 }
theorem hdX9_floatAt : yX9_floatAt.cls ≠ "java/lang/invoke/MethodHandle" ∧ yX9_floatAt.cls ≠ "java/lang/invoke/VarHandle" ∧ (parseMethodDescriptor yX9_floatAt.desc).map (fun d => d.parameters.length) = some 5 := by decide +kernel
def fX9_floatAt_118 (b : Nat) : Nat → Sg → Int32 → Int32 → Int32 → Int32 → Int32 → Int32 → Option (Int32 × Sg)
  | 0, _, _, _, _, _, _, _ => none
  | n + 1, σ, l1, l2, l3, l4, l5, l7 =>
    (fX9_isWindow σ b l7).bind fun r9 =>
    if r9 = true then
      ((fX9_floatAt_118 b n) σ l1 l2 l3 l4 l5 (l7 + 1))
    else
      (fX9_puts σ b l7 0 1).bind fun σ10 =>
      (fX9_puts σ10 b l7 1 l2).bind fun σ11 =>
      (fX9_puts σ11 b l7 2 l3).bind fun σ12 =>
      (fX9_puts σ12 b l7 3 l4).bind fun σ13 =>
      (fX9_puts σ13 b l7 4 l5).bind fun σ14 =>
      (fX9_comesLast σ14 b 246 l7).bind fun σ15 =>
      (fX9_roots σ15 b l1 l7).bind fun σ16 =>
      some (l7, σ16)
theorem bX9_floatAt_118 {X : Xc} {K : Kc} (C : MC X K cX9_floatAt 8 RX9 rmX9_floatAt) (hr : K.meth.sig.returnType = (some .int)) (b : Nat) (hb : moOK b) : ∀ (n : Nat) (σ : Sg) (l1 : Int32) (l2 : Int32) (l3 : Int32) (l4 : Int32) (l5 : Int32) (l7 : Int32), GO X K 8 (fun r => MQi X K r.1 r.2) (fX9_floatAt_118 b n σ l1 l2 l3 l4 l5 l7) σ 0 0 118 [some (.ref (X.ad b)), some (.int (l1)), some (.int (l2)), some (.int (l3)), some (.int (l4)), some (.int (l5)), none, some (.int (l7))] [] := by
  intro n
  induction n with
  | zero =>
    intro σ l1 l2 l3 l4 l5 l7
    exact g_none
  | succ n ih =>
    intro σ l1 l2 l3 l4 l5 l7
    unfold fX9_floatAt_118
    refine g_aload_n (pc := 118) (i := 0) C dX9_floatAt_118 rfl rfl ?_
    refine g_iload (pc := 119) C dX9_floatAt_119 rfl ?_
    refine g_callVi (pc := 121) (As := [.int (l7)]) C (kX9_isWindow X σ b l7 hb) (blk hb 0 rfl) rfl q_27_9 q_27_10 q_27_11 q_1_5 q_27_12 ⟨rfl, hdX9_isWindow⟩ ⟨Nat.le_of_ble_eq_true rfl, Nat.le_of_ble_eq_true rfl, rfl, rfl⟩ ⟨Nat.zero_le _, Nat.zero_le _⟩ (Nat.le_of_ble_eq_true rfl) rfl rfl dX9_floatAt_121 (fun r9 _ => ?_)
    refine g_ifb_eq (pc := 124) (tgt := 133) C dX9_floatAt_124 rfl ?_ ?_
    · refine g_iinc (pc := 127) (v := l7 + 1) C dX9_floatAt_127 rfl (rfl) (Nat.le_of_ble_eq_true rfl) rfl ?_
      refine g_goto (pc := 130) (tgt := 118) C dX9_floatAt_130 rfl ?_
      refine g_keep [true, true, true, true, true, true, false, true] ?_
      exact ih σ l1 l2 l3 l4 l5 (l7 + 1)
    · refine g_aload_n (pc := 133) (i := 0) C dX9_floatAt_133 rfl rfl ?_
      refine g_iload (pc := 134) C dX9_floatAt_134 rfl ?_
      refine g_iconst (pc := 136) (v := 0) C dX9_floatAt_136 (by decide) ?_
      refine g_iconst (pc := 137) (v := 1) C dX9_floatAt_137 (by decide) ?_
      refine g_callVv (pc := 138) (As := [.int (l7), .int (0), .int (1)]) C (kX9_puts X σ b l7 0 1 hb) (blk hb 0 rfl) rfl q_22_16 q_22_17 q_22_18 q_1_5 q_22_19 ⟨rfl, hdX9_puts⟩ ⟨Nat.le_of_ble_eq_true rfl, Nat.le_of_ble_eq_true rfl, rfl, rfl⟩ ⟨Nat.zero_le _, Nat.zero_le _⟩ (Nat.le_of_ble_eq_true rfl) rfl rfl dX9_floatAt_138 (fun σ10 _ => ?_)
      refine g_aload_n (pc := 141) (i := 0) C dX9_floatAt_141 rfl rfl ?_
      refine g_iload (pc := 142) C dX9_floatAt_142 rfl ?_
      refine g_iconst (pc := 144) (v := 1) C dX9_floatAt_144 (by decide) ?_
      refine g_iload_n (pc := 145) (i := 2) C dX9_floatAt_145 rfl rfl ?_
      refine g_callVv (pc := 146) (As := [.int (l7), .int (1), .int (l2)]) C (kX9_puts X σ10 b l7 1 l2 hb) (blk hb 0 rfl) rfl q_22_16 q_22_17 q_22_18 q_1_5 q_22_19 ⟨rfl, hdX9_puts⟩ ⟨Nat.le_of_ble_eq_true rfl, Nat.le_of_ble_eq_true rfl, rfl, rfl⟩ ⟨Nat.zero_le _, Nat.zero_le _⟩ (Nat.le_of_ble_eq_true rfl) rfl rfl dX9_floatAt_146 (fun σ11 _ => ?_)
      refine g_aload_n (pc := 149) (i := 0) C dX9_floatAt_149 rfl rfl ?_
      refine g_iload (pc := 150) C dX9_floatAt_150 rfl ?_
      refine g_iconst (pc := 152) (v := 2) C dX9_floatAt_152 (by decide) ?_
      refine g_iload_n (pc := 153) (i := 3) C dX9_floatAt_153 rfl rfl ?_
      refine g_callVv (pc := 154) (As := [.int (l7), .int (2), .int (l3)]) C (kX9_puts X σ11 b l7 2 l3 hb) (blk hb 0 rfl) rfl q_22_16 q_22_17 q_22_18 q_1_5 q_22_19 ⟨rfl, hdX9_puts⟩ ⟨Nat.le_of_ble_eq_true rfl, Nat.le_of_ble_eq_true rfl, rfl, rfl⟩ ⟨Nat.zero_le _, Nat.zero_le _⟩ (Nat.le_of_ble_eq_true rfl) rfl rfl dX9_floatAt_154 (fun σ12 _ => ?_)
      refine g_aload_n (pc := 157) (i := 0) C dX9_floatAt_157 rfl rfl ?_
      refine g_iload (pc := 158) C dX9_floatAt_158 rfl ?_
      refine g_iconst (pc := 160) (v := 3) C dX9_floatAt_160 (by decide) ?_
      refine g_iload (pc := 161) C dX9_floatAt_161 rfl ?_
      refine g_callVv (pc := 163) (As := [.int (l7), .int (3), .int (l4)]) C (kX9_puts X σ12 b l7 3 l4 hb) (blk hb 0 rfl) rfl q_22_16 q_22_17 q_22_18 q_1_5 q_22_19 ⟨rfl, hdX9_puts⟩ ⟨Nat.le_of_ble_eq_true rfl, Nat.le_of_ble_eq_true rfl, rfl, rfl⟩ ⟨Nat.zero_le _, Nat.zero_le _⟩ (Nat.le_of_ble_eq_true rfl) rfl rfl dX9_floatAt_163 (fun σ13 _ => ?_)
      refine g_aload_n (pc := 166) (i := 0) C dX9_floatAt_166 rfl rfl ?_
      refine g_iload (pc := 167) C dX9_floatAt_167 rfl ?_
      refine g_iconst (pc := 169) (v := 4) C dX9_floatAt_169 (by decide) ?_
      refine g_iload (pc := 170) C dX9_floatAt_170 rfl ?_
      refine g_callVv (pc := 172) (As := [.int (l7), .int (4), .int (l5)]) C (kX9_puts X σ13 b l7 4 l5 hb) (blk hb 0 rfl) rfl q_22_16 q_22_17 q_22_18 q_1_5 q_22_19 ⟨rfl, hdX9_puts⟩ ⟨Nat.le_of_ble_eq_true rfl, Nat.le_of_ble_eq_true rfl, rfl, rfl⟩ ⟨Nat.zero_le _, Nat.zero_le _⟩ (Nat.le_of_ble_eq_true rfl) rfl rfl dX9_floatAt_172 (fun σ14 _ => ?_)
      refine g_aload_n (pc := 175) (i := 0) C dX9_floatAt_175 rfl rfl ?_
      refine g_sipush (pc := 176) (v := 246) C dX9_floatAt_176 (by decide) ?_
      refine g_iload (pc := 179) C dX9_floatAt_179 rfl ?_
      refine g_callVv (pc := 181) (As := [.int (246), .int (l7)]) C (kX9_comesLast X σ14 b 246 l7 hb) (blk hb 0 rfl) rfl q_31_22 q_31_23 q_32_0 q_1_5 q_32_1 ⟨rfl, hdX9_comesLast⟩ ⟨Nat.le_of_ble_eq_true rfl, Nat.le_of_ble_eq_true rfl, rfl, rfl⟩ ⟨Nat.zero_le _, Nat.zero_le _⟩ (Nat.le_of_ble_eq_true rfl) rfl rfl dX9_floatAt_181 (fun σ15 _ => ?_)
      refine g_aload_n (pc := 184) (i := 0) C dX9_floatAt_184 rfl rfl ?_
      refine g_iload_n (pc := 185) (i := 1) C dX9_floatAt_185 rfl rfl ?_
      refine g_iload (pc := 186) C dX9_floatAt_186 rfl ?_
      refine g_callVv (pc := 188) (As := [.int (l1), .int (l7)]) C (kX9_roots X σ15 b l1 l7 hb) (blk hb 0 rfl) rfl q_36_13 q_36_14 q_36_15 q_1_5 q_36_16 ⟨rfl, hdX9_roots⟩ ⟨Nat.le_of_ble_eq_true rfl, Nat.le_of_ble_eq_true rfl, rfl, rfl⟩ ⟨Nat.zero_le _, Nat.zero_le _⟩ (Nat.le_of_ble_eq_true rfl) rfl rfl dX9_floatAt_188 (fun σ16 _ => ?_)
      refine g_iload (pc := 191) C dX9_floatAt_191 rfl ?_
      exact g_iret (pc := 193) C hr dX9_floatAt_193 rfl
def fX9_floatAt_98 (b : Nat) (σ : Sg) (l1 : Int32) (l2 : Int32) (l3 : Int32) (l4 : Int32) (l5 : Int32) (s1 : Int32) : Option (Int32 × Sg) :=
  (fX9_refused σ b s1).bind fun r6 =>
  if r6.1 = true then
    some (0, r6.2)
  else
    (fX9_saves r6.2 b).bind fun σ7 =>
    (fX9_takes σ7 b l1).bind fun σ8 =>
    (fX9_floatAt_118 b FU σ8 l1 l2 l3 l4 l5 1)
theorem bX9_floatAt_98 {X : Xc} {K : Kc} (C : MC X K cX9_floatAt 8 RX9 rmX9_floatAt) (hr : K.meth.sig.returnType = (some .int)) (b : Nat) (hb : moOK b) (σ : Sg) (l1 : Int32) (l2 : Int32) (l3 : Int32) (l4 : Int32) (l5 : Int32) (s1 : Int32) : GO X K 8 (fun r => MQi X K r.1 r.2) (fX9_floatAt_98 b σ l1 l2 l3 l4 l5 s1) σ 0 0 98 [some (.ref (X.ad b)), some (.int (l1)), some (.int (l2)), some (.int (l3)), some (.int (l4)), some (.int (l5)), none, none] [.int (s1), .ref (X.ad b)] := by
  unfold fX9_floatAt_98
  refine g_callVi (pc := 98) (As := [.int (s1)]) C (kX9_refused X σ b s1 hb) (blk hb 0 rfl) rfl q_10_9 q_10_10 q_10_11 q_1_5 q_10_12 ⟨rfl, hdX9_refused⟩ ⟨Nat.le_of_ble_eq_true rfl, Nat.le_of_ble_eq_true rfl, rfl, rfl⟩ ⟨Nat.zero_le _, Nat.zero_le _⟩ (Nat.le_of_ble_eq_true rfl) rfl rfl dX9_floatAt_98 (fun r6 _ => ?_)
  refine g_ifb_eq (pc := 101) (tgt := 106) C dX9_floatAt_101 rfl ?_ ?_
  · refine g_iconst (pc := 104) (v := 0) C dX9_floatAt_104 (by decide) ?_
    exact g_iret (pc := 105) C hr dX9_floatAt_105 rfl
  · refine g_aload_n (pc := 106) (i := 0) C dX9_floatAt_106 rfl rfl ?_
    refine g_callVv (pc := 107) (As := []) C (kX9_saves X r6.2 b hb) (blk hb 0 rfl) rfl q_10_14 q_10_15 q_10_16 q_1_5 q_10_17 ⟨rfl, hdX9_saves⟩ ⟨Nat.le_of_ble_eq_true rfl, Nat.le_of_ble_eq_true rfl, rfl, rfl⟩ ⟨Nat.zero_le _, Nat.zero_le _⟩ (Nat.le_of_ble_eq_true rfl) rfl rfl dX9_floatAt_107 (fun σ7 _ => ?_)
    refine g_aload_n (pc := 110) (i := 0) C dX9_floatAt_110 rfl rfl ?_
    refine g_iload_n (pc := 111) (i := 1) C dX9_floatAt_111 rfl rfl ?_
    refine g_callVv (pc := 112) (As := [.int (l1)]) C (kX9_takes X σ7 b l1 hb) (blk hb 0 rfl) rfl q_19_20 q_19_21 q_19_22 q_1_5 q_19_23 ⟨rfl, hdX9_takes⟩ ⟨Nat.le_of_ble_eq_true rfl, Nat.le_of_ble_eq_true rfl, rfl, rfl⟩ ⟨Nat.zero_le _, Nat.zero_le _⟩ (Nat.le_of_ble_eq_true rfl) rfl rfl dX9_floatAt_112 (fun σ8 _ => ?_)
    refine g_iconst (pc := 115) (v := 1) C dX9_floatAt_115 (by decide) ?_
    refine g_istore (pc := 116) C dX9_floatAt_116 (Nat.le_of_ble_eq_true rfl) rfl ?_
    refine g_keep [true, true, true, true, true, true, false, true] ?_
    exact bX9_floatAt_118 C hr b hb FU σ8 l1 l2 l3 l4 l5 1
def fX9_floatAt_57 (b : Nat) (σ : Sg) (l1 : Int32) (l2 : Int32) (l3 : Int32) (l4 : Int32) (l5 : Int32) (s0 : Int32) : Option (Int32 × Sg) :=
  (fX9_isPane σ b l1).bind fun r5 =>
  if r5 = true then
    if s0 = 0 then
      (fX9_floatAt_98 b σ l1 l2 l3 l4 l5 2)
    else
      if ck 246 921 then
        if (σ.1 (b + 1) (246 : Int32).toNatClampNeg) = 4 then
          (fX9_floatAt_98 b σ l1 l2 l3 l4 l5 3)
        else
          (fX9_floatAt_98 b σ l1 l2 l3 l4 l5 0)
      else none
  else
    (fX9_floatAt_98 b σ l1 l2 l3 l4 l5 1)
theorem bX9_floatAt_57 {X : Xc} {K : Kc} (C : MC X K cX9_floatAt 8 RX9 rmX9_floatAt) (hr : K.meth.sig.returnType = (some .int)) (b : Nat) (hb : moOK b) (σ : Sg) (l1 : Int32) (l2 : Int32) (l3 : Int32) (l4 : Int32) (l5 : Int32) (s0 : Int32) : GO X K 8 (fun r => MQi X K r.1 r.2) (fX9_floatAt_57 b σ l1 l2 l3 l4 l5 s0) σ 0 0 57 [some (.ref (X.ad b)), some (.int (l1)), some (.int (l2)), some (.int (l3)), some (.int (l4)), some (.int (l5)), none, none] [.int (s0)] := by
  unfold fX9_floatAt_57
  refine g_istore (pc := 57) C dX9_floatAt_57 (Nat.le_of_ble_eq_true rfl) rfl ?_
  refine g_aload_n (pc := 59) (i := 0) C dX9_floatAt_59 rfl rfl ?_
  refine g_aload_n (pc := 60) (i := 0) C dX9_floatAt_60 rfl rfl ?_
  refine g_iload_n (pc := 61) (i := 1) C dX9_floatAt_61 rfl rfl ?_
  refine g_callVi (pc := 62) (As := [.int (l1)]) C (kX9_isPane X σ b l1 hb) (blk hb 0 rfl) rfl q_19_16 q_19_17 q_19_18 q_1_5 q_19_19 ⟨rfl, hdX9_isPane⟩ ⟨Nat.le_of_ble_eq_true rfl, Nat.le_of_ble_eq_true rfl, rfl, rfl⟩ ⟨Nat.zero_le _, Nat.zero_le _⟩ (Nat.le_of_ble_eq_true rfl) rfl rfl dX9_floatAt_62 (fun r5 _ => ?_)
  refine g_ifb_ne (pc := 65) (tgt := 72) C dX9_floatAt_65 rfl ?_ ?_
  · refine g_iload (pc := 72) C dX9_floatAt_72 rfl ?_
    refine g_if_ne (pc := 74) (tgt := 81) C dX9_floatAt_74 rfl ?_ ?_
    · refine g_iconst (pc := 77) (v := 2) C dX9_floatAt_77 (by decide) ?_
      refine g_goto (pc := 78) (tgt := 98) C dX9_floatAt_78 rfl ?_
      refine g_keep [true, true, true, true, true, true, false, false] ?_
      exact bX9_floatAt_98 C hr b hb σ l1 l2 l3 l4 l5 2
    · refine g_aload_n (pc := 81) (i := 0) C dX9_floatAt_81 rfl rfl ?_
      refine g_getr (pc := 82) (ci := 9) (N := 27) (T := TX9) (j := 0) (Cn := RX9) (b + 1) C rfl inlX9 (Nat.le_of_ble_eq_true rfl) q_6_2 (blk hb 0 rfl) rfl dX9_floatAt_82 ?_
      refine g_sipush (pc := 85) (v := 246) C dX9_floatAt_85 (by decide) ?_
      refine g_iaload (pc := 88) C (blk hb 1 rfl) dX9_floatAt_88 ?_
      refine g_iconst (pc := 89) (v := 4) C dX9_floatAt_89 (by decide) ?_
      refine g_icmp_ne (pc := 90) (tgt := 97) C dX9_floatAt_90 rfl ?_ ?_
      · refine g_iconst (pc := 93) (v := 3) C dX9_floatAt_93 (by decide) ?_
        refine g_goto (pc := 94) (tgt := 98) C dX9_floatAt_94 rfl ?_
        refine g_keep [true, true, true, true, true, true, false, false] ?_
        exact bX9_floatAt_98 C hr b hb σ l1 l2 l3 l4 l5 3
      · refine g_iconst (pc := 97) (v := 0) C dX9_floatAt_97 (by decide) ?_
        refine g_keep [true, true, true, true, true, true, false, false] ?_
        exact bX9_floatAt_98 C hr b hb σ l1 l2 l3 l4 l5 0
  · refine g_iconst (pc := 68) (v := 1) C dX9_floatAt_68 (by decide) ?_
    refine g_goto (pc := 69) (tgt := 98) C dX9_floatAt_69 rfl ?_
    refine g_keep [true, true, true, true, true, true, false, false] ?_
    exact bX9_floatAt_98 C hr b hb σ l1 l2 l3 l4 l5 1
def fX9_floatAt_56 (b : Nat) (σ : Sg) (l1 : Int32) (l2 : Int32) (l3 : Int32) (l4 : Int32) (l5 : Int32) : Option (Int32 × Sg) :=
  (fX9_floatAt_57 b σ l1 l2 l3 l4 l5 0)
theorem bX9_floatAt_56 {X : Xc} {K : Kc} (C : MC X K cX9_floatAt 8 RX9 rmX9_floatAt) (hr : K.meth.sig.returnType = (some .int)) (b : Nat) (hb : moOK b) (σ : Sg) (l1 : Int32) (l2 : Int32) (l3 : Int32) (l4 : Int32) (l5 : Int32) : GO X K 8 (fun r => MQi X K r.1 r.2) (fX9_floatAt_56 b σ l1 l2 l3 l4 l5) σ 0 0 56 [some (.ref (X.ad b)), some (.int (l1)), some (.int (l2)), some (.int (l3)), some (.int (l4)), some (.int (l5)), none, none] [] := by
  unfold fX9_floatAt_56
  refine g_iconst (pc := 56) (v := 0) C dX9_floatAt_56 (by decide) ?_
  refine g_keep [true, true, true, true, true, true, false, false] ?_
  exact bX9_floatAt_57 C hr b hb σ l1 l2 l3 l4 l5 0
def fX9_floatAt (σ : Sg) (b : Nat) (p1 : Int32) (p2 : Int32) (p3 : Int32) (p4 : Int32) (p5 : Int32) : Option (Int32 × Sg) :=
  (fX9_within σ p2 (-400) 400).bind fun r1 =>
  if r1 = true then
    (fX9_within σ p3 (-400) 400).bind fun r2 =>
    if r2 = true then
      (fX9_within σ p4 10 400).bind fun r3 =>
      if r3 = true then
        (fX9_within σ p5 10 400).bind fun r4 =>
        if r4 = true then
          (fX9_floatAt_57 b σ p1 p2 p3 p4 p5 1)
        else
          (fX9_floatAt_56 b σ p1 p2 p3 p4 p5)
      else
        (fX9_floatAt_56 b σ p1 p2 p3 p4 p5)
    else
      (fX9_floatAt_56 b σ p1 p2 p3 p4 p5)
  else
    (fX9_floatAt_56 b σ p1 p2 p3 p4 p5)
theorem kX9_floatAt (X : Xc) (σ : Sg) (b : Nat) (p1 : Int32) (p2 : Int32) (p3 : Int32) (p4 : Int32) (p5 : Int32) (hb : moOK b) : ∀ r, fX9_floatAt σ b p1 p2 p3 p4 p5 = some r → Met X.l yX9_floatAt (wsM yX9_floatAt cX9_floatAt 8 (some .int)) rmX9_floatAt (va_Pc [.ref (X.ad b), .int p1, .int p2, .int p3, .int p4, .int p5] (PW X σ)) (Qi X r.1 r.2) 0 0 X.A := by
  refine mt_of (own := RX9) (lo := [some (.ref (X.ad b)), some (.int (p1)), some (.int (p2)), some (.int (p3)), some (.int (p4)), some (.int (p5)), none, none]) (by decide) rfl (Nat.le_of_ble_eq_true rfl) rfl (fun K C hr => ?_)
  unfold fX9_floatAt
  refine g_iload_n (pc := 0) (i := 2) C dX9_floatAt_0 rfl rfl ?_
  refine g_sipush (pc := 1) (v := (-400)) C dX9_floatAt_1 (by decide) ?_
  refine g_sipush (pc := 4) (v := 400) C dX9_floatAt_4 (by decide) ?_
  refine g_callSi (pc := 7) (As := [.int (p2), .int ((-400)), .int (400)]) C (kX9_within X σ p2 (-400) 400) q_10_6 q_10_7 q_1_5 q_10_8 hdX9_within ⟨Nat.le_of_ble_eq_true rfl, Nat.le_of_ble_eq_true rfl, rfl, rfl⟩ ⟨Nat.zero_le _, Nat.zero_le _⟩ (Nat.le_of_ble_eq_true rfl) rfl rfl dX9_floatAt_7 (fun r1 _ => ?_)
  refine g_ifb_eq (pc := 10) (tgt := 56) C dX9_floatAt_10 rfl ?_ ?_
  · refine g_iload_n (pc := 13) (i := 3) C dX9_floatAt_13 rfl rfl ?_
    refine g_sipush (pc := 14) (v := (-400)) C dX9_floatAt_14 (by decide) ?_
    refine g_sipush (pc := 17) (v := 400) C dX9_floatAt_17 (by decide) ?_
    refine g_callSi (pc := 20) (As := [.int (p3), .int ((-400)), .int (400)]) C (kX9_within X σ p3 (-400) 400) q_10_6 q_10_7 q_1_5 q_10_8 hdX9_within ⟨Nat.le_of_ble_eq_true rfl, Nat.le_of_ble_eq_true rfl, rfl, rfl⟩ ⟨Nat.zero_le _, Nat.zero_le _⟩ (Nat.le_of_ble_eq_true rfl) rfl rfl dX9_floatAt_20 (fun r2 _ => ?_)
    refine g_ifb_eq (pc := 23) (tgt := 56) C dX9_floatAt_23 rfl ?_ ?_
    · refine g_iload (pc := 26) C dX9_floatAt_26 rfl ?_
      refine g_bipush (pc := 28) (v := 10) C dX9_floatAt_28 (by decide) ?_
      refine g_sipush (pc := 30) (v := 400) C dX9_floatAt_30 (by decide) ?_
      refine g_callSi (pc := 33) (As := [.int (p4), .int (10), .int (400)]) C (kX9_within X σ p4 10 400) q_10_6 q_10_7 q_1_5 q_10_8 hdX9_within ⟨Nat.le_of_ble_eq_true rfl, Nat.le_of_ble_eq_true rfl, rfl, rfl⟩ ⟨Nat.zero_le _, Nat.zero_le _⟩ (Nat.le_of_ble_eq_true rfl) rfl rfl dX9_floatAt_33 (fun r3 _ => ?_)
      refine g_ifb_eq (pc := 36) (tgt := 56) C dX9_floatAt_36 rfl ?_ ?_
      · refine g_iload (pc := 39) C dX9_floatAt_39 rfl ?_
        refine g_bipush (pc := 41) (v := 10) C dX9_floatAt_41 (by decide) ?_
        refine g_sipush (pc := 43) (v := 400) C dX9_floatAt_43 (by decide) ?_
        refine g_callSi (pc := 46) (As := [.int (p5), .int (10), .int (400)]) C (kX9_within X σ p5 10 400) q_10_6 q_10_7 q_1_5 q_10_8 hdX9_within ⟨Nat.le_of_ble_eq_true rfl, Nat.le_of_ble_eq_true rfl, rfl, rfl⟩ ⟨Nat.zero_le _, Nat.zero_le _⟩ (Nat.le_of_ble_eq_true rfl) rfl rfl dX9_floatAt_46 (fun r4 _ => ?_)
        refine g_ifb_eq (pc := 49) (tgt := 56) C dX9_floatAt_49 rfl ?_ ?_
        · refine g_iconst (pc := 52) (v := 1) C dX9_floatAt_52 (by decide) ?_
          refine g_goto (pc := 53) (tgt := 57) C dX9_floatAt_53 rfl ?_
          refine g_keep [true, true, true, true, true, true, false, false] ?_
          exact bX9_floatAt_57 C hr b hb σ p1 p2 p3 p4 p5 1
        · refine g_keep [true, true, true, true, true, true, false, false] ?_
          exact bX9_floatAt_56 C hr b hb σ p1 p2 p3 p4 p5
      · refine g_keep [true, true, true, true, true, true, false, false] ?_
        exact bX9_floatAt_56 C hr b hb σ p1 p2 p3 p4 p5
    · refine g_keep [true, true, true, true, true, true, false, false] ?_
      exact bX9_floatAt_56 C hr b hb σ p1 p2 p3 p4 p5
  · refine g_keep [true, true, true, true, true, true, false, false] ?_
    exact bX9_floatAt_56 C hr b hb σ p1 p2 p3 p4 p5
